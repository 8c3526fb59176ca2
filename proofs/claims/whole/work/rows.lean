section
/-- a private method of a class that the tables say can be made, by its rows of tables_1 -/
def lw_okq (q : MethodName × Nat) : Prop := (q.1.cls ≠ "java/lang/invoke/MethodHandle" ∧ q.1.cls ≠ "java/lang/invoke/VarHandle") ∧ Cond.instantiable q.1.cls q.2 ∈ tables_1 ∧ Cond.privateMethod q.1 ∈ tables_1 ∧ Cond.instanceMethod q.1 ∈ tables_1
theorem lw_p0 : lw_okq (⟨"BackCourt", "renewed", "([LBackCourt$Row;III)I"⟩, 13) := ⟨⟨by decide +kernel, by decide +kernel⟩, List.mem_of_getElem? (i := 12) (by decide +kernel), List.mem_of_getElem? (i := 206) (by decide +kernel), List.mem_of_getElem? (i := 207) (by decide +kernel)⟩
theorem lw_p1 : lw_okq (⟨"BackCourt", "refuse", "(I)I"⟩, 13) := ⟨⟨by decide +kernel, by decide +kernel⟩, List.mem_of_getElem? (i := 12) (by decide +kernel), List.mem_of_getElem? (i := 213) (by decide +kernel), List.mem_of_getElem? (i := 214) (by decide +kernel)⟩
theorem lw_p2 : lw_okq (⟨"BackCourt", "refusalOfPlace", "(LBackCourt$Row;I)I"⟩, 13) := ⟨⟨by decide +kernel, by decide +kernel⟩, List.mem_of_getElem? (i := 12) (by decide +kernel), List.mem_of_getElem? (i := 228) (by decide +kernel), List.mem_of_getElem? (i := 229) (by decide +kernel)⟩
theorem lw_p3 : lw_okq (⟨"BackCourt", "tell", "(I)I"⟩, 13) := ⟨⟨by decide +kernel, by decide +kernel⟩, List.mem_of_getElem? (i := 12) (by decide +kernel), List.mem_of_getElem? (i := 250) (by decide +kernel), List.mem_of_getElem? (i := 251) (by decide +kernel)⟩
theorem lw_p4 : lw_okq (⟨"BackCourt$Reader", "skipBlanks", "()V"⟩, 3) := ⟨⟨by decide +kernel, by decide +kernel⟩, List.mem_of_getElem? (i := 63) (by decide +kernel), List.mem_of_getElem? (i := 307) (by decide +kernel), List.mem_of_getElem? (i := 308) (by decide +kernel)⟩
theorem lw_p5 : lw_okq (⟨"BackCourt$Reader", "readItem", "()Z"⟩, 3) := ⟨⟨by decide +kernel, by decide +kernel⟩, List.mem_of_getElem? (i := 63) (by decide +kernel), List.mem_of_getElem? (i := 312) (by decide +kernel), List.mem_of_getElem? (i := 313) (by decide +kernel)⟩
theorem lw_p6 : lw_okq (⟨"BackCourt$Reader", "letter", "()I"⟩, 3) := ⟨⟨by decide +kernel, by decide +kernel⟩, List.mem_of_getElem? (i := 63) (by decide +kernel), List.mem_of_getElem? (i := 316) (by decide +kernel), List.mem_of_getElem? (i := 317) (by decide +kernel)⟩
theorem lw_p7 : lw_okq (⟨"BackCourt$Reader", "sign", "()I"⟩, 3) := ⟨⟨by decide +kernel, by decide +kernel⟩, List.mem_of_getElem? (i := 63) (by decide +kernel), List.mem_of_getElem? (i := 320) (by decide +kernel), List.mem_of_getElem? (i := 321) (by decide +kernel)⟩
theorem lw_p8 : lw_okq (⟨"BackCourt$Reader", "figure", "()I"⟩, 3) := ⟨⟨by decide +kernel, by decide +kernel⟩, List.mem_of_getElem? (i := 63) (by decide +kernel), List.mem_of_getElem? (i := 326) (by decide +kernel), List.mem_of_getElem? (i := 327) (by decide +kernel)⟩
theorem lw_p9 : lw_okq (⟨"BackCourt$Reader", "readMarks", "()I"⟩, 3) := ⟨⟨by decide +kernel, by decide +kernel⟩, List.mem_of_getElem? (i := 63) (by decide +kernel), List.mem_of_getElem? (i := 339) (by decide +kernel), List.mem_of_getElem? (i := 340) (by decide +kernel)⟩
theorem lw_p10 : lw_okq (⟨"BackCourt", "findWays", "(I)V"⟩, 13) := ⟨⟨by decide +kernel, by decide +kernel⟩, List.mem_of_getElem? (i := 12) (by decide +kernel), List.mem_of_getElem? (i := 397) (by decide +kernel), List.mem_of_getElem? (i := 398) (by decide +kernel)⟩
theorem lw_p11 : lw_okq (⟨"BackCourt$Bench", "mattersTo", "(I)I"⟩, 8) := ⟨⟨by decide +kernel, by decide +kernel⟩, List.mem_of_getElem? (i := 101) (by decide +kernel), List.mem_of_getElem? (i := 423) (by decide +kernel), List.mem_of_getElem? (i := 424) (by decide +kernel)⟩
theorem lw_p12 : lw_okq (⟨"BackCourt", "isKept", "(I)Z"⟩, 13) := ⟨⟨by decide +kernel, by decide +kernel⟩, List.mem_of_getElem? (i := 12) (by decide +kernel), List.mem_of_getElem? (i := 458) (by decide +kernel), List.mem_of_getElem? (i := 459) (by decide +kernel)⟩
theorem lw_p13 : lw_okq (⟨"BackCourt", "fewest", "(III)I"⟩, 13) := ⟨⟨by decide +kernel, by decide +kernel⟩, List.mem_of_getElem? (i := 12) (by decide +kernel), List.mem_of_getElem? (i := 527) (by decide +kernel), List.mem_of_getElem? (i := 528) (by decide +kernel)⟩
theorem lw_p14 : lw_okq (⟨"BackCourt", "canReach", "(IIII)Z"⟩, 13) := ⟨⟨by decide +kernel, by decide +kernel⟩, List.mem_of_getElem? (i := 12) (by decide +kernel), List.mem_of_getElem? (i := 531) (by decide +kernel), List.mem_of_getElem? (i := 532) (by decide +kernel)⟩
theorem lw_p15 : lw_okq (⟨"BackCourt", "changedWithout", "(I)I"⟩, 13) := ⟨⟨by decide +kernel, by decide +kernel⟩, List.mem_of_getElem? (i := 12) (by decide +kernel), List.mem_of_getElem? (i := 558) (by decide +kernel), List.mem_of_getElem? (i := 559) (by decide +kernel)⟩
def lw_privs_1 : List (MethodName × Nat) := [(⟨"BackCourt", "renewed", "([LBackCourt$Row;III)I"⟩, 13), (⟨"BackCourt", "refuse", "(I)I"⟩, 13), (⟨"BackCourt", "refusalOfPlace", "(LBackCourt$Row;I)I"⟩, 13), (⟨"BackCourt", "tell", "(I)I"⟩, 13), (⟨"BackCourt$Reader", "skipBlanks", "()V"⟩, 3), (⟨"BackCourt$Reader", "readItem", "()Z"⟩, 3), (⟨"BackCourt$Reader", "letter", "()I"⟩, 3), (⟨"BackCourt$Reader", "sign", "()I"⟩, 3), (⟨"BackCourt$Reader", "figure", "()I"⟩, 3), (⟨"BackCourt$Reader", "readMarks", "()I"⟩, 3), (⟨"BackCourt", "findWays", "(I)V"⟩, 13), (⟨"BackCourt$Bench", "mattersTo", "(I)I"⟩, 8), (⟨"BackCourt", "isKept", "(I)Z"⟩, 13), (⟨"BackCourt", "fewest", "(III)I"⟩, 13), (⟨"BackCourt", "canReach", "(IIII)Z"⟩, 13), (⟨"BackCourt", "changedWithout", "(I)I"⟩, 13)]
theorem lw_r1 : ∀ q ∈ lw_privs_1, lw_okq q := List.forall_mem_cons.mpr ⟨lw_p0, List.forall_mem_cons.mpr ⟨lw_p1, List.forall_mem_cons.mpr ⟨lw_p2, List.forall_mem_cons.mpr ⟨lw_p3, List.forall_mem_cons.mpr ⟨lw_p4, List.forall_mem_cons.mpr ⟨lw_p5, List.forall_mem_cons.mpr ⟨lw_p6, List.forall_mem_cons.mpr ⟨lw_p7, List.forall_mem_cons.mpr ⟨lw_p8, List.forall_mem_cons.mpr ⟨lw_p9, List.forall_mem_cons.mpr ⟨lw_p10, List.forall_mem_cons.mpr ⟨lw_p11, List.forall_mem_cons.mpr ⟨lw_p12, List.forall_mem_cons.mpr ⟨lw_p13, List.forall_mem_cons.mpr ⟨lw_p14, List.forall_mem_cons.mpr ⟨lw_p15, fun _ h => absurd h List.not_mem_nil⟩⟩⟩⟩⟩⟩⟩⟩⟩⟩⟩⟩⟩⟩⟩⟩
theorem lw_p16 : lw_okq (⟨"BackCourt", "fileByLot", "(I)V"⟩, 13) := ⟨⟨by decide +kernel, by decide +kernel⟩, List.mem_of_getElem? (i := 12) (by decide +kernel), List.mem_of_getElem? (i := 631) (by decide +kernel), List.mem_of_getElem? (i := 632) (by decide +kernel)⟩
theorem lw_p17 : lw_okq (⟨"BackCourt", "countOf", "(I)I"⟩, 13) := ⟨⟨by decide +kernel, by decide +kernel⟩, List.mem_of_getElem? (i := 12) (by decide +kernel), List.mem_of_getElem? (i := 656) (by decide +kernel), List.mem_of_getElem? (i := 657) (by decide +kernel)⟩
theorem lw_p18 : lw_okq (⟨"BackCourtModel", "finds", "(I)I"⟩, 27) := ⟨⟨by decide +kernel, by decide +kernel⟩, List.mem_of_getElem? (i := 687) (by decide +kernel), List.mem_of_getElem? (i := 785) (by decide +kernel), List.mem_of_getElem? (i := 786) (by decide +kernel)⟩
theorem lw_p19 : lw_okq (⟨"BackCourtModel", "tells", "(I)I"⟩, 27) := ⟨⟨by decide +kernel, by decide +kernel⟩, List.mem_of_getElem? (i := 687) (by decide +kernel), List.mem_of_getElem? (i := 793) (by decide +kernel), List.mem_of_getElem? (i := 794) (by decide +kernel)⟩
theorem lw_p20 : lw_okq (⟨"BackCourtModel", "isPart", "(III)Z"⟩, 27) := ⟨⟨by decide +kernel, by decide +kernel⟩, List.mem_of_getElem? (i := 687) (by decide +kernel), List.mem_of_getElem? (i := 809) (by decide +kernel), List.mem_of_getElem? (i := 810) (by decide +kernel)⟩
theorem lw_p21 : lw_okq (⟨"BackCourtModel", "reads", "(IZ)I"⟩, 27) := ⟨⟨by decide +kernel, by decide +kernel⟩, List.mem_of_getElem? (i := 687) (by decide +kernel), List.mem_of_getElem? (i := 832) (by decide +kernel), List.mem_of_getElem? (i := 833) (by decide +kernel)⟩
theorem lw_p22 : lw_okq (⟨"BackCourtModel", "byteAt", "(II)I"⟩, 27) := ⟨⟨by decide +kernel, by decide +kernel⟩, List.mem_of_getElem? (i := 687) (by decide +kernel), List.mem_of_getElem? (i := 836) (by decide +kernel), List.mem_of_getElem? (i := 837) (by decide +kernel)⟩
theorem lw_p23 : lw_okq (⟨"BackCourtModel", "readsItem", "(III)V"⟩, 27) := ⟨⟨by decide +kernel, by decide +kernel⟩, List.mem_of_getElem? (i := 687) (by decide +kernel), List.mem_of_getElem? (i := 840) (by decide +kernel), List.mem_of_getElem? (i := 841) (by decide +kernel)⟩
theorem lw_p24 : lw_okq (⟨"BackCourtModel", "figure", "(III)I"⟩, 27) := ⟨⟨by decide +kernel, by decide +kernel⟩, List.mem_of_getElem? (i := 687) (by decide +kernel), List.mem_of_getElem? (i := 847) (by decide +kernel), List.mem_of_getElem? (i := 848) (by decide +kernel)⟩
theorem lw_p25 : lw_okq (⟨"BackCourtModel", "faults", "(I)V"⟩, 27) := ⟨⟨by decide +kernel, by decide +kernel⟩, List.mem_of_getElem? (i := 687) (by decide +kernel), List.mem_of_getElem? (i := 851) (by decide +kernel), List.mem_of_getElem? (i := 852) (by decide +kernel)⟩
theorem lw_p26 : lw_okq (⟨"BackCourtModel", "readsCitation", "(III)V"⟩, 27) := ⟨⟨by decide +kernel, by decide +kernel⟩, List.mem_of_getElem? (i := 687) (by decide +kernel), List.mem_of_getElem? (i := 855) (by decide +kernel), List.mem_of_getElem? (i := 856) (by decide +kernel)⟩
theorem lw_p27 : lw_okq (⟨"BackCourtModel", "adds", "(IIIIII)V"⟩, 27) := ⟨⟨by decide +kernel, by decide +kernel⟩, List.mem_of_getElem? (i := 687) (by decide +kernel), List.mem_of_getElem? (i := 859) (by decide +kernel), List.mem_of_getElem? (i := 860) (by decide +kernel)⟩
theorem lw_p28 : lw_okq (⟨"BackCourtModel", "isRuling", "(I)Z"⟩, 27) := ⟨⟨by decide +kernel, by decide +kernel⟩, List.mem_of_getElem? (i := 687) (by decide +kernel), List.mem_of_getElem? (i := 871) (by decide +kernel), List.mem_of_getElem? (i := 872) (by decide +kernel)⟩
theorem lw_p29 : lw_okq (⟨"BackCourtModel", "told", "(II)I"⟩, 27) := ⟨⟨by decide +kernel, by decide +kernel⟩, List.mem_of_getElem? (i := 687) (by decide +kernel), List.mem_of_getElem? (i := 875) (by decide +kernel), List.mem_of_getElem? (i := 876) (by decide +kernel)⟩
theorem lw_p30 : lw_okq (⟨"BackCourtModel", "citing", "(II)I"⟩, 27) := ⟨⟨by decide +kernel, by decide +kernel⟩, List.mem_of_getElem? (i := 687) (by decide +kernel), List.mem_of_getElem? (i := 879) (by decide +kernel), List.mem_of_getElem? (i := 880) (by decide +kernel)⟩
theorem lw_p31 : lw_okq (⟨"BackCourtModel", "all", "()V"⟩, 27) := ⟨⟨by decide +kernel, by decide +kernel⟩, List.mem_of_getElem? (i := 687) (by decide +kernel), List.mem_of_getElem? (i := 890) (by decide +kernel), List.mem_of_getElem? (i := 891) (by decide +kernel)⟩
def lw_privs_2 : List (MethodName × Nat) := [(⟨"BackCourt", "fileByLot", "(I)V"⟩, 13), (⟨"BackCourt", "countOf", "(I)I"⟩, 13), (⟨"BackCourtModel", "finds", "(I)I"⟩, 27), (⟨"BackCourtModel", "tells", "(I)I"⟩, 27), (⟨"BackCourtModel", "isPart", "(III)Z"⟩, 27), (⟨"BackCourtModel", "reads", "(IZ)I"⟩, 27), (⟨"BackCourtModel", "byteAt", "(II)I"⟩, 27), (⟨"BackCourtModel", "readsItem", "(III)V"⟩, 27), (⟨"BackCourtModel", "figure", "(III)I"⟩, 27), (⟨"BackCourtModel", "faults", "(I)V"⟩, 27), (⟨"BackCourtModel", "readsCitation", "(III)V"⟩, 27), (⟨"BackCourtModel", "adds", "(IIIIII)V"⟩, 27), (⟨"BackCourtModel", "isRuling", "(I)Z"⟩, 27), (⟨"BackCourtModel", "told", "(II)I"⟩, 27), (⟨"BackCourtModel", "citing", "(II)I"⟩, 27), (⟨"BackCourtModel", "all", "()V"⟩, 27)]
theorem lw_r2 : ∀ q ∈ lw_privs_2, lw_okq q := List.forall_mem_cons.mpr ⟨lw_p16, List.forall_mem_cons.mpr ⟨lw_p17, List.forall_mem_cons.mpr ⟨lw_p18, List.forall_mem_cons.mpr ⟨lw_p19, List.forall_mem_cons.mpr ⟨lw_p20, List.forall_mem_cons.mpr ⟨lw_p21, List.forall_mem_cons.mpr ⟨lw_p22, List.forall_mem_cons.mpr ⟨lw_p23, List.forall_mem_cons.mpr ⟨lw_p24, List.forall_mem_cons.mpr ⟨lw_p25, List.forall_mem_cons.mpr ⟨lw_p26, List.forall_mem_cons.mpr ⟨lw_p27, List.forall_mem_cons.mpr ⟨lw_p28, List.forall_mem_cons.mpr ⟨lw_p29, List.forall_mem_cons.mpr ⟨lw_p30, List.forall_mem_cons.mpr ⟨lw_p31, fun _ h => absurd h List.not_mem_nil⟩⟩⟩⟩⟩⟩⟩⟩⟩⟩⟩⟩⟩⟩⟩⟩
theorem lw_p32 : lw_okq (⟨"BackCourtModel", "standsIn", "(I)I"⟩, 27) := ⟨⟨by decide +kernel, by decide +kernel⟩, List.mem_of_getElem? (i := 687) (by decide +kernel), List.mem_of_getElem? (i := 894) (by decide +kernel), List.mem_of_getElem? (i := 895) (by decide +kernel)⟩
theorem lw_p33 : lw_okq (⟨"BackCourtModel", "isWay", "(I)Z"⟩, 27) := ⟨⟨by decide +kernel, by decide +kernel⟩, List.mem_of_getElem? (i := 687) (by decide +kernel), List.mem_of_getElem? (i := 901) (by decide +kernel), List.mem_of_getElem? (i := 902) (by decide +kernel)⟩
theorem lw_p34 : lw_okq (⟨"BackCourtModel", "dueBy", "(I)I"⟩, 27) := ⟨⟨by decide +kernel, by decide +kernel⟩, List.mem_of_getElem? (i := 687) (by decide +kernel), List.mem_of_getElem? (i := 905) (by decide +kernel), List.mem_of_getElem? (i := 906) (by decide +kernel)⟩
theorem lw_p35 : lw_okq (⟨"BackCourtModel", "isDue", "(IIIII)Z"⟩, 27) := ⟨⟨by decide +kernel, by decide +kernel⟩, List.mem_of_getElem? (i := 687) (by decide +kernel), List.mem_of_getElem? (i := 909) (by decide +kernel), List.mem_of_getElem? (i := 910) (by decide +kernel)⟩
theorem lw_p36 : lw_okq (⟨"BackCourtModel", "depends", "(I)I"⟩, 27) := ⟨⟨by decide +kernel, by decide +kernel⟩, List.mem_of_getElem? (i := 687) (by decide +kernel), List.mem_of_getElem? (i := 913) (by decide +kernel), List.mem_of_getElem? (i := 914) (by decide +kernel)⟩
theorem lw_p37 : lw_okq (⟨"BackCourtModel", "ofItsDay", "(I)I"⟩, 27) := ⟨⟨by decide +kernel, by decide +kernel⟩, List.mem_of_getElem? (i := 687) (by decide +kernel), List.mem_of_getElem? (i := 917) (by decide +kernel), List.mem_of_getElem? (i := 918) (by decide +kernel)⟩
theorem lw_p38 : lw_okq (⟨"BackCourtModel", "isSet", "(I)Z"⟩, 27) := ⟨⟨by decide +kernel, by decide +kernel⟩, List.mem_of_getElem? (i := 687) (by decide +kernel), List.mem_of_getElem? (i := 949) (by decide +kernel), List.mem_of_getElem? (i := 950) (by decide +kernel)⟩
theorem lw_p39 : lw_okq (⟨"BackCourtModel", "firstWay", "()I"⟩, 27) := ⟨⟨by decide +kernel, by decide +kernel⟩, List.mem_of_getElem? (i := 687) (by decide +kernel), List.mem_of_getElem? (i := 957) (by decide +kernel), List.mem_of_getElem? (i := 958) (by decide +kernel)⟩
theorem lw_p40 : lw_okq (⟨"BackCourtModel", "wayMany", "()I"⟩, 27) := ⟨⟨by decide +kernel, by decide +kernel⟩, List.mem_of_getElem? (i := 687) (by decide +kernel), List.mem_of_getElem? (i := 961) (by decide +kernel), List.mem_of_getElem? (i := 962) (by decide +kernel)⟩
theorem lw_p41 : lw_okq (⟨"BackCourtModel", "findsSure", "()V"⟩, 27) := ⟨⟨by decide +kernel, by decide +kernel⟩, List.mem_of_getElem? (i := 687) (by decide +kernel), List.mem_of_getElem? (i := 973) (by decide +kernel), List.mem_of_getElem? (i := 974) (by decide +kernel)⟩
theorem lw_p42 : lw_okq (⟨"BackCourtModel", "upTo", "(I)V"⟩, 27) := ⟨⟨by decide +kernel, by decide +kernel⟩, List.mem_of_getElem? (i := 687) (by decide +kernel), List.mem_of_getElem? (i := 989) (by decide +kernel), List.mem_of_getElem? (i := 990) (by decide +kernel)⟩
theorem lw_p43 : lw_okq (⟨"BackCourtModel", "files", "(III)I"⟩, 27) := ⟨⟨by decide +kernel, by decide +kernel⟩, List.mem_of_getElem? (i := 687) (by decide +kernel), List.mem_of_getElem? (i := 1005) (by decide +kernel), List.mem_of_getElem? (i := 1006) (by decide +kernel)⟩
theorem lw_p44 : lw_okq (⟨"BackCourtModel", "strikes", "(II)Z"⟩, 27) := ⟨⟨by decide +kernel, by decide +kernel⟩, List.mem_of_getElem? (i := 687) (by decide +kernel), List.mem_of_getElem? (i := 1012) (by decide +kernel), List.mem_of_getElem? (i := 1013) (by decide +kernel)⟩
theorem lw_p45 : lw_okq (⟨"BackCourtModel", "isReached", "(II)Z"⟩, 27) := ⟨⟨by decide +kernel, by decide +kernel⟩, List.mem_of_getElem? (i := 687) (by decide +kernel), List.mem_of_getElem? (i := 1016) (by decide +kernel), List.mem_of_getElem? (i := 1017) (by decide +kernel)⟩
theorem lw_p46 : lw_okq (⟨"BackCourtModel", "otherwise", "(I)I"⟩, 27) := ⟨⟨by decide +kernel, by decide +kernel⟩, List.mem_of_getElem? (i := 687) (by decide +kernel), List.mem_of_getElem? (i := 1033) (by decide +kernel), List.mem_of_getElem? (i := 1034) (by decide +kernel)⟩
theorem lw_p47 : lw_okq (⟨"BackCourtModel", "verdictBy", "(III)I"⟩, 27) := ⟨⟨by decide +kernel, by decide +kernel⟩, List.mem_of_getElem? (i := 687) (by decide +kernel), List.mem_of_getElem? (i := 1055) (by decide +kernel), List.mem_of_getElem? (i := 1056) (by decide +kernel)⟩
def lw_privs_3 : List (MethodName × Nat) := [(⟨"BackCourtModel", "standsIn", "(I)I"⟩, 27), (⟨"BackCourtModel", "isWay", "(I)Z"⟩, 27), (⟨"BackCourtModel", "dueBy", "(I)I"⟩, 27), (⟨"BackCourtModel", "isDue", "(IIIII)Z"⟩, 27), (⟨"BackCourtModel", "depends", "(I)I"⟩, 27), (⟨"BackCourtModel", "ofItsDay", "(I)I"⟩, 27), (⟨"BackCourtModel", "isSet", "(I)Z"⟩, 27), (⟨"BackCourtModel", "firstWay", "()I"⟩, 27), (⟨"BackCourtModel", "wayMany", "()I"⟩, 27), (⟨"BackCourtModel", "findsSure", "()V"⟩, 27), (⟨"BackCourtModel", "upTo", "(I)V"⟩, 27), (⟨"BackCourtModel", "files", "(III)I"⟩, 27), (⟨"BackCourtModel", "strikes", "(II)Z"⟩, 27), (⟨"BackCourtModel", "isReached", "(II)Z"⟩, 27), (⟨"BackCourtModel", "otherwise", "(I)I"⟩, 27), (⟨"BackCourtModel", "verdictBy", "(III)I"⟩, 27)]
theorem lw_r3 : ∀ q ∈ lw_privs_3, lw_okq q := List.forall_mem_cons.mpr ⟨lw_p32, List.forall_mem_cons.mpr ⟨lw_p33, List.forall_mem_cons.mpr ⟨lw_p34, List.forall_mem_cons.mpr ⟨lw_p35, List.forall_mem_cons.mpr ⟨lw_p36, List.forall_mem_cons.mpr ⟨lw_p37, List.forall_mem_cons.mpr ⟨lw_p38, List.forall_mem_cons.mpr ⟨lw_p39, List.forall_mem_cons.mpr ⟨lw_p40, List.forall_mem_cons.mpr ⟨lw_p41, List.forall_mem_cons.mpr ⟨lw_p42, List.forall_mem_cons.mpr ⟨lw_p43, List.forall_mem_cons.mpr ⟨lw_p44, List.forall_mem_cons.mpr ⟨lw_p45, List.forall_mem_cons.mpr ⟨lw_p46, List.forall_mem_cons.mpr ⟨lw_p47, fun _ h => absurd h List.not_mem_nil⟩⟩⟩⟩⟩⟩⟩⟩⟩⟩⟩⟩⟩⟩⟩⟩
theorem lw_p48 : lw_okq (⟨"BackCourtModel", "agrees", "(II)Z"⟩, 27) := ⟨⟨by decide +kernel, by decide +kernel⟩, List.mem_of_getElem? (i := 687) (by decide +kernel), List.mem_of_getElem? (i := 1071) (by decide +kernel), List.mem_of_getElem? (i := 1072) (by decide +kernel)⟩
theorem lw_p49 : lw_okq (⟨"BackCourtModel", "ahead", "(I)I"⟩, 27) := ⟨⟨by decide +kernel, by decide +kernel⟩, List.mem_of_getElem? (i := 687) (by decide +kernel), List.mem_of_getElem? (i := 1094) (by decide +kernel), List.mem_of_getElem? (i := 1095) (by decide +kernel)⟩
theorem lw_p50 : lw_okq (⟨"BackCourtModel", "nthAhead", "(II)I"⟩, 27) := ⟨⟨by decide +kernel, by decide +kernel⟩, List.mem_of_getElem? (i := 687) (by decide +kernel), List.mem_of_getElem? (i := 1098) (by decide +kernel), List.mem_of_getElem? (i := 1099) (by decide +kernel)⟩
theorem lw_p51 : lw_okq (⟨"BackCourtModel", "counted", "(I)I"⟩, 27) := ⟨⟨by decide +kernel, by decide +kernel⟩, List.mem_of_getElem? (i := 687) (by decide +kernel), List.mem_of_getElem? (i := 1118) (by decide +kernel), List.mem_of_getElem? (i := 1119) (by decide +kernel)⟩
def lw_privs_4 : List (MethodName × Nat) := [(⟨"BackCourtModel", "agrees", "(II)Z"⟩, 27), (⟨"BackCourtModel", "ahead", "(I)I"⟩, 27), (⟨"BackCourtModel", "nthAhead", "(II)I"⟩, 27), (⟨"BackCourtModel", "counted", "(I)I"⟩, 27)]
theorem lw_r4 : ∀ q ∈ lw_privs_4, lw_okq q := List.forall_mem_cons.mpr ⟨lw_p48, List.forall_mem_cons.mpr ⟨lw_p49, List.forall_mem_cons.mpr ⟨lw_p50, List.forall_mem_cons.mpr ⟨lw_p51, fun _ h => absurd h List.not_mem_nil⟩⟩⟩⟩
def lw_privs : List (MethodName × Nat) := lw_privs_1 ++ (lw_privs_2 ++ (lw_privs_3 ++ (lw_privs_4)))
def lw_tbl : List Cond := k2_sels lw_privs ++ tables_1
theorem lw_privs_ok : ∀ q ∈ lw_privs, lw_okq q := by
  show ∀ q ∈ lw_privs_1 ++ (lw_privs_2 ++ (lw_privs_3 ++ (lw_privs_4))), lw_okq q
  exact List.forall_mem_append.mpr ⟨lw_r1, List.forall_mem_append.mpr ⟨lw_r2, List.forall_mem_append.mpr ⟨lw_r3, lw_r4⟩⟩⟩
end
section
def RX0 : String := "BackCourt$Bench"
def TX0 : u_T := fun k => match k with
  | 0 => ("BackCourt$Bench", "kind", "[I", true)
  | 1 => ("BackCourt$Bench", "against", "[I", true)
  | 2 => ("BackCourt$Bench", "inFavour", "[I", true)
  | 3 => ("BackCourt$Bench", "cited", "[I", true)
  | 4 => ("BackCourt$Bench", "sameDay", "[I", true)
  | 5 => ("BackCourt$Bench", "filed", "[I", true)
  | 6 => ("BackCourt$Bench", "absent", "I", false)
  | _ => ("BackCourt$Bench", "size", "I", false)
def tyX0 : Nat → FieldType := fun k => match k with
  | 0 => .array .int
  | 1 => .array .int
  | 2 => .array .int
  | 3 => .array .int
  | 4 => .array .int
  | 5 => .array .int
  | 6 => .int
  | _ => .int
abbrev wsX00 : List Cond := u_ws RX0 TX0 8
theorem nmX0 : ∀ a, a < 8 → ∀ b, b < 8 → a ≠ b → (TX0 a).2.1 ≠ (TX0 b).2.1 := by decide +kernel
theorem tyX0_ok : ∀ k, k < 8 → parseFieldDescriptor (TX0 k).2.2.1 = some (tyX0 k) := by decide +kernel
abbrev cX0_init : ByteArray := prog_2_method_1_code
def yX0_init : MethodName := ⟨RX0, "<init>", "()V"⟩
abbrev cX0_seat : ByteArray := prog_2_method_2_code
def yX0_seat : MethodName := ⟨RX0, "seat", "(LBackCourt$Court;)V"⟩
abbrev cX0_forgetCitation : ByteArray := prog_2_method_3_code
def yX0_forgetCitation : MethodName := ⟨RX0, "forgetCitation", "(I)V"⟩
abbrev cX0_isMovedByOneMore : ByteArray := prog_2_method_4_code
def yX0_isMovedByOneMore : MethodName := ⟨RX0, "isMovedByOneMore", "(I)Z"⟩
abbrev cX0_isToStand : ByteArray := prog_2_method_5_code
def yX0_isToStand : MethodName := ⟨RX0, "isToStand", "(II)Z"⟩
abbrev cX0_clash : ByteArray := prog_2_method_6_code
def yX0_clash : MethodName := ⟨RX0, "clash", "(I)I"⟩
abbrev cX0_mattersTo : ByteArray := prog_2_method_7_code
def yX0_mattersTo : MethodName := ⟨RX0, "mattersTo", "(I)I"⟩
def RX1 : String := "BackCourt$Court"
def TX1 : u_T := fun k => match k with
  | 0 => ("BackCourt$Court", "kind", "[I", true)
  | 1 => ("BackCourt$Court", "day", "[I", true)
  | 2 => ("BackCourt$Court", "verdict", "[I", true)
  | 3 => ("BackCourt$Court", "cites", "[I", true)
  | 4 => ("BackCourt$Court", "how", "[I", true)
  | 5 => ("BackCourt$Court", "marks", "[I", true)
  | _ => ("BackCourt$Court", "size", "I", false)
def tyX1 : Nat → FieldType := fun k => match k with
  | 0 => .array .int
  | 1 => .array .int
  | 2 => .array .int
  | 3 => .array .int
  | 4 => .array .int
  | 5 => .array .int
  | _ => .int
abbrev wsX10 : List Cond := u_ws RX1 TX1 7
theorem nmX1 : ∀ a, a < 7 → ∀ b, b < 7 → a ≠ b → (TX1 a).2.1 ≠ (TX1 b).2.1 := by decide +kernel
theorem tyX1_ok : ∀ k, k < 7 → parseFieldDescriptor (TX1 k).2.2.1 = some (tyX1 k) := by decide +kernel
abbrev cX1_init : ByteArray := prog_3_method_1_code
def yX1_init : MethodName := ⟨RX1, "<init>", "()V"⟩
abbrev cX1_has : ByteArray := prog_3_method_2_code
def yX1_has : MethodName := ⟨RX1, "has", "(I)Z"⟩
abbrev cX1_everyRuling : ByteArray := prog_3_method_3_code
def yX1_everyRuling : MethodName := ⟨RX1, "everyRuling", "()I"⟩
abbrev cX1_canBeCited : ByteArray := prog_3_method_4_code
def yX1_canBeCited : MethodName := ⟨RX1, "canBeCited", "(II)Z"⟩
abbrev cX1_citable : ByteArray := prog_3_method_5_code
def yX1_citable : MethodName := ⟨RX1, "citable", "(II)I"⟩
abbrev cX1_add : ByteArray := prog_3_method_6_code
def yX1_add : MethodName := ⟨RX1, "add", "(IIIIII)V"⟩
abbrev cX1_cutTo : ByteArray := prog_3_method_7_code
def yX1_cutTo : MethodName := ⟨RX1, "cutTo", "(I)V"⟩
abbrev cX1_become : ByteArray := prog_3_method_8_code
def yX1_become : MethodName := ⟨RX1, "become", "(LBackCourt$Court;)V"⟩
abbrev cX1_detail : ByteArray := prog_3_method_9_code
def yX1_detail : MethodName := ⟨RX1, "detail", "(II)I"⟩
abbrev cX1_citations : ByteArray := prog_3_method_10_code
def yX1_citations : MethodName := ⟨RX1, "citations", "(II)I"⟩
abbrev cX1_dependsOn : ByteArray := prog_3_method_11_code
def yX1_dependsOn : MethodName := ⟨RX1, "dependsOn", "(I)I"⟩
abbrev cX1_ofDay : ByteArray := prog_3_method_12_code
def yX1_ofDay : MethodName := ⟨RX1, "ofDay", "(I)I"⟩
abbrev cX1_othersOfItsDay : ByteArray := prog_3_method_13_code
def yX1_othersOfItsDay : MethodName := ⟨RX1, "othersOfItsDay", "(I)I"⟩
abbrev cX1_laterThan : ByteArray := prog_3_method_14_code
def yX1_laterThan : MethodName := ⟨RX1, "laterThan", "(I)I"⟩
abbrev cX1_countOf : ByteArray := prog_3_method_15_code
def yX1_countOf : MethodName := ⟨RX1, "countOf", "(I)I"⟩
abbrev cX1_likeness : ByteArray := prog_3_method_16_code
def yX1_likeness : MethodName := ⟨RX1, "likeness", "(III)I"⟩
abbrev cX1_decide : ByteArray := prog_3_method_17_code
def yX1_decide : MethodName := ⟨RX1, "decide", "(III)I"⟩
abbrev cX1_verdictsBy : ByteArray := prog_3_method_18_code
def yX1_verdictsBy : MethodName := ⟨RX1, "verdictsBy", "(I)I"⟩
abbrev cX1_agrees : ByteArray := prog_3_method_19_code
def yX1_agrees : MethodName := ⟨RX1, "agrees", "(II)Z"⟩
def RX2 : String := "BackCourt$Reader"
def TX2 : u_T := fun k => match k with
  | 0 => ("BackCourt$Reader", "draft", "LBackCourt$Court;", true)
  | 1 => ("BackCourt$Reader", "source", "LBackCourt$Row;", false)
  | _ => ("BackCourt$Reader", "place", "I", false)
def tyX2 : Nat → FieldType := fun k => match k with
  | 0 => .object "BackCourt$Court"
  | 1 => .object "BackCourt$Row"
  | _ => .int
abbrev wsX20 : List Cond := u_ws RX2 TX2 3
theorem nmX2 : ∀ a, a < 3 → ∀ b, b < 3 → a ≠ b → (TX2 a).2.1 ≠ (TX2 b).2.1 := by decide +kernel
theorem tyX2_ok : ∀ k, k < 3 → parseFieldDescriptor (TX2 k).2.2.1 = some (tyX2 k) := by decide +kernel
abbrev cX2_init : ByteArray := prog_4_method_1_code
def yX2_init : MethodName := ⟨RX2, "<init>", "()V"⟩
abbrev cX2_read : ByteArray := prog_4_method_2_code
def yX2_read : MethodName := ⟨RX2, "read", "(LBackCourt$Row;)I"⟩
abbrev cX2_skipBlanks : ByteArray := prog_4_method_3_code
def yX2_skipBlanks : MethodName := ⟨RX2, "skipBlanks", "()V"⟩
abbrev cX2_readItem : ByteArray := prog_4_method_4_code
def yX2_readItem : MethodName := ⟨RX2, "readItem", "()Z"⟩
abbrev cX2_sign : ByteArray := prog_4_method_5_code
def yX2_sign : MethodName := ⟨RX2, "sign", "()I"⟩
abbrev cX2_letter : ByteArray := prog_4_method_6_code
def yX2_letter : MethodName := ⟨RX2, "letter", "()I"⟩
abbrev cX2_figure : ByteArray := prog_4_method_7_code
def yX2_figure : MethodName := ⟨RX2, "figure", "()I"⟩
abbrev cX2_readMarks : ByteArray := prog_4_method_8_code
def yX2_readMarks : MethodName := ⟨RX2, "readMarks", "()I"⟩
def RX3 : String := "BackCourt$Row"
def TX3 : u_T := fun k => match k with
  | 0 => ("BackCourt$Row", "values", "[I", true)
  | _ => ("BackCourt$Row", "size", "I", false)
def tyX3 : Nat → FieldType := fun k => match k with
  | 0 => .array .int
  | _ => .int
abbrev wsX30 : List Cond := u_ws RX3 TX3 2
theorem nmX3 : ∀ a, a < 2 → ∀ b, b < 2 → a ≠ b → (TX3 a).2.1 ≠ (TX3 b).2.1 := by decide +kernel
theorem tyX3_ok : ∀ k, k < 2 → parseFieldDescriptor (TX3 k).2.2.1 = some (tyX3 k) := by decide +kernel
abbrev cX3_init : ByteArray := prog_5_method_1_code
def yX3_init : MethodName := ⟨RX3, "<init>", "(I)V"⟩
abbrev cX3_isMissing : ByteArray := prog_5_method_2_code
def yX3_isMissing : MethodName := ⟨RX3, "isMissing", "()Z"⟩
abbrev cX3_has : ByteArray := prog_5_method_3_code
def yX3_has : MethodName := ⟨RX3, "has", "(I)Z"⟩
abbrev cX3_hasRun : ByteArray := prog_5_method_4_code
def yX3_hasRun : MethodName := ⟨RX3, "hasRun", "(II)Z"⟩
abbrev cX3_value : ByteArray := prog_5_method_5_code
def yX3_value : MethodName := ⟨RX3, "value", "(I)I"⟩
abbrev cX3_swap : ByteArray := prog_5_method_6_code
def yX3_swap : MethodName := ⟨RX3, "swap", "(II)I"⟩
abbrev cX3_renew : ByteArray := prog_5_method_7_code
def yX3_renew : MethodName := ⟨RX3, "renew", "(II)V"⟩
abbrev cX3_remove : ByteArray := prog_5_method_8_code
def yX3_remove : MethodName := ⟨RX3, "remove", "()V"⟩
abbrev cX3_sum : ByteArray := prog_5_method_9_code
def yX3_sum : MethodName := ⟨RX3, "sum", "()J"⟩
abbrev cX3_digestFrom : ByteArray := prog_5_method_10_code
def yX3_digestFrom : MethodName := ⟨RX3, "digestFrom", "(J)J"⟩
def RX4 : String := "BackCourt$Ways"
def TX4 : u_T := fun k => match k with
  | 0 => ("BackCourt$Ways", "sets", "[I", true)
  | 1 => ("BackCourt$Ways", "number", "I", false)
  | 2 => ("BackCourt$Ways", "inEach", "I", false)
  | 3 => ("BackCourt$Ways", "inSome", "I", false)
  | _ => ("BackCourt$Ways", "every", "I", false)
def tyX4 : Nat → FieldType := fun k => match k with
  | 0 => .array .int
  | 1 => .int
  | 2 => .int
  | 3 => .int
  | _ => .int
abbrev wsX40 : List Cond := u_ws RX4 TX4 5
theorem nmX4 : ∀ a, a < 5 → ∀ b, b < 5 → a ≠ b → (TX4 a).2.1 ≠ (TX4 b).2.1 := by decide +kernel
theorem tyX4_ok : ∀ k, k < 5 → parseFieldDescriptor (TX4 k).2.2.1 = some (tyX4 k) := by decide +kernel
abbrev cX4_init : ByteArray := prog_6_method_1_code
def yX4_init : MethodName := ⟨RX4, "<init>", "()V"⟩
abbrev cX4_find : ByteArray := prog_6_method_2_code
def yX4_find : MethodName := ⟨RX4, "find", "(LBackCourt$Bench;)V"⟩
abbrev cX4_first : ByteArray := prog_6_method_3_code
def yX4_first : MethodName := ⟨RX4, "first", "()I"⟩
abbrev cX4_surelyStanding : ByteArray := prog_6_method_4_code
def yX4_surelyStanding : MethodName := ⟨RX4, "surelyStanding", "()I"⟩
abbrev cX4_surelyFalling : ByteArray := prog_6_method_5_code
def yX4_surelyFalling : MethodName := ⟨RX4, "surelyFalling", "()I"⟩
abbrev cX4_waysWith : ByteArray := prog_6_method_6_code
def yX4_waysWith : MethodName := ⟨RX4, "waysWith", "(I)I"⟩
abbrev cX4_meets : ByteArray := prog_6_method_7_code
def yX4_meets : MethodName := ⟨RX4, "meets", "(II)Z"⟩
def RX5 : String := "BackCourt"
def TX5 : u_T := fun k => match k with
  | 0 => ("BackCourt", "rows", "[LBackCourt$Row;", true)
  | 1 => ("BackCourt", "texts", "[LBackCourt$Row;", true)
  | 2 => ("BackCourt", "court", "LBackCourt$Court;", true)
  | 3 => ("BackCourt", "kept", "[LBackCourt$Court;", true)
  | 4 => ("BackCourt", "reader", "LBackCourt$Reader;", true)
  | 5 => ("BackCourt", "bench", "LBackCourt$Bench;", true)
  | 6 => ("BackCourt", "found", "LBackCourt$Ways;", true)
  | 7 => ("BackCourt", "picked", "[I", true)
  | 8 => ("BackCourt", "answered", "[I", true)
  | 9 => ("BackCourt", "latest", "I", false)
  | 10 => ("BackCourt", "told", "I", false)
  | 11 => ("BackCourt", "upperTold", "J", false)
  | _ => ("BackCourt", "lowerTold", "J", false)
def tyX5 : Nat → FieldType := fun k => match k with
  | 0 => .array (.object "BackCourt$Row")
  | 1 => .array (.object "BackCourt$Row")
  | 2 => .object "BackCourt$Court"
  | 3 => .array (.object "BackCourt$Court")
  | 4 => .object "BackCourt$Reader"
  | 5 => .object "BackCourt$Bench"
  | 6 => .object "BackCourt$Ways"
  | 7 => .array .int
  | 8 => .array .int
  | 9 => .int
  | 10 => .int
  | 11 => .long
  | _ => .long
abbrev wsX50 : List Cond := u_ws RX5 TX5 13
theorem nmX5 : ∀ a, a < 13 → ∀ b, b < 13 → a ≠ b → (TX5 a).2.1 ≠ (TX5 b).2.1 := by decide +kernel
theorem tyX5_ok : ∀ k, k < 13 → parseFieldDescriptor (TX5 k).2.2.1 = some (tyX5 k) := by decide +kernel
abbrev cX5_init : ByteArray := prog_1_method_1_code
def yX5_init : MethodName := ⟨RX5, "<init>", "()V"⟩
abbrev cX5_row : ByteArray := prog_1_method_2_code
def yX5_row : MethodName := ⟨RX5, "row", "(II)I"⟩
abbrev cX5_lay : ByteArray := prog_1_method_3_code
def yX5_lay : MethodName := ⟨RX5, "lay", "(III)I"⟩
abbrev cX5_at : ByteArray := prog_1_method_4_code
def yX5_at : MethodName := ⟨RX5, "at", "(II)I"⟩
abbrev cX5_tear : ByteArray := prog_1_method_5_code
def yX5_tear : MethodName := ⟨RX5, "tear", "(I)I"⟩
abbrev cX5_copy : ByteArray := prog_1_method_6_code
def yX5_copy : MethodName := ⟨RX5, "copy", "(IIIII)I"⟩
abbrev cX5_mean : ByteArray := prog_1_method_7_code
def yX5_mean : MethodName := ⟨RX5, "mean", "(I)I"⟩
abbrev cX5_text : ByteArray := prog_1_method_8_code
def yX5_text : MethodName := ⟨RX5, "text", "(II)I"⟩
abbrev cX5_put : ByteArray := prog_1_method_9_code
def yX5_put : MethodName := ⟨RX5, "put", "(III)I"⟩
abbrev cX5_fault : ByteArray := prog_1_method_10_code
def yX5_fault : MethodName := ⟨RX5, "fault", "(I)I"⟩
abbrev cX5_court : ByteArray := prog_1_method_11_code
def yX5_court : MethodName := ⟨RX5, "court", "(I)I"⟩
abbrev cX5_ruling : ByteArray := prog_1_method_12_code
def yX5_ruling : MethodName := ⟨RX5, "ruling", "(II)I"⟩
abbrev cX5_mark : ByteArray := prog_1_method_13_code
def yX5_mark : MethodName := ⟨RX5, "mark", "(II)I"⟩
abbrev cX5_reverse : ByteArray := prog_1_method_14_code
def yX5_reverse : MethodName := ⟨RX5, "reverse", "(II)I"⟩
abbrev cX5_marks : ByteArray := prog_1_method_15_code
def yX5_marks : MethodName := ⟨RX5, "marks", "(II)I"⟩
abbrev cX5_file : ByteArray := prog_1_method_16_code
def yX5_file : MethodName := ⟨RX5, "file", "(IIIII)I"⟩
abbrev cX5_strike : ByteArray := prog_1_method_17_code
def yX5_strike : MethodName := ⟨RX5, "strike", "(I)I"⟩
abbrev cX5_keep : ByteArray := prog_1_method_18_code
def yX5_keep : MethodName := ⟨RX5, "keep", "(I)I"⟩
abbrev cX5_on : ByteArray := prog_1_method_19_code
def yX5_on : MethodName := ⟨RX5, "on", "(I)I"⟩
abbrev cX5_due : ByteArray := prog_1_method_20_code
def yX5_due : MethodName := ⟨RX5, "due", "(I)I"⟩
abbrev cX5_ways : ByteArray := prog_1_method_21_code
def yX5_ways : MethodName := ⟨RX5, "ways", "()I"⟩
abbrev cX5_nth : ByteArray := prog_1_method_22_code
def yX5_nth : MethodName := ⟨RX5, "nth", "(I)I"⟩
abbrev cX5_sure : ByteArray := prog_1_method_23_code
def yX5_sure : MethodName := ⟨RX5, "sure", "()I"⟩
abbrev cX5_odds : ByteArray := prog_1_method_24_code
def yX5_odds : MethodName := ⟨RX5, "odds", "(I)I"⟩
abbrev cX5_together : ByteArray := prog_1_method_25_code
def yX5_together : MethodName := ⟨RX5, "together", "(I)I"⟩
abbrev cX5_till : ByteArray := prog_1_method_26_code
def yX5_till : MethodName := ⟨RX5, "till", "(I)I"⟩
abbrev cX5_flips : ByteArray := prog_1_method_27_code
def yX5_flips : MethodName := ⟨RX5, "flips", "(I)I"⟩
abbrev cX5_jam : ByteArray := prog_1_method_28_code
def yX5_jam : MethodName := ⟨RX5, "jam", "()I"⟩
abbrev cX5_fell : ByteArray := prog_1_method_29_code
def yX5_fell : MethodName := ⟨RX5, "fell", "(II)I"⟩
abbrev cX5_guard : ByteArray := prog_1_method_30_code
def yX5_guard : MethodName := ⟨RX5, "guard", "(II)I"⟩
abbrev cX5_settle : ByteArray := prog_1_method_31_code
def yX5_settle : MethodName := ⟨RX5, "settle", "(I)I"⟩
abbrev cX5_matter : ByteArray := prog_1_method_32_code
def yX5_matter : MethodName := ⟨RX5, "matter", "(I)I"⟩
abbrev cX5_judge : ByteArray := prog_1_method_33_code
def yX5_judge : MethodName := ⟨RX5, "judge", "()I"⟩
abbrev cX5_like : ByteArray := prog_1_method_34_code
def yX5_like : MethodName := ⟨RX5, "like", "(II)I"⟩
abbrev cX5_verdict : ByteArray := prog_1_method_35_code
def yX5_verdict : MethodName := ⟨RX5, "verdict", "(II)I"⟩
abbrev cX5_surely : ByteArray := prog_1_method_36_code
def yX5_surely : MethodName := ⟨RX5, "surely", "(I)I"⟩
abbrev cX5_freed : ByteArray := prog_1_method_37_code
def yX5_freed : MethodName := ⟨RX5, "freed", "(I)I"⟩
abbrev cX5_code : ByteArray := prog_1_method_38_code
def yX5_code : MethodName := ⟨RX5, "code", "()I"⟩
abbrev cX5_kinds : ByteArray := prog_1_method_39_code
def yX5_kinds : MethodName := ⟨RX5, "kinds", "(II)I"⟩
abbrev cX5_forged : ByteArray := prog_1_method_40_code
def yX5_forged : MethodName := ⟨RX5, "forged", "(I)I"⟩
abbrev cX5_torn : ByteArray := prog_1_method_41_code
def yX5_torn : MethodName := ⟨RX5, "torn", "(II)I"⟩
abbrev cX5_lots : ByteArray := prog_1_method_42_code
def yX5_lots : MethodName := ⟨RX5, "lots", "(II)I"⟩
abbrev cX5_asked : ByteArray := prog_1_method_43_code
def yX5_asked : MethodName := ⟨RX5, "asked", "()I"⟩
abbrev cX5_upper : ByteArray := prog_1_method_44_code
def yX5_upper : MethodName := ⟨RX5, "upper", "()J"⟩
abbrev cX5_lower : ByteArray := prog_1_method_45_code
def yX5_lower : MethodName := ⟨RX5, "lower", "()J"⟩
abbrev cX5_count : ByteArray := prog_1_method_46_code
def yX5_count : MethodName := ⟨RX5, "count", "(I)I"⟩
abbrev cX5_finding : ByteArray := prog_1_method_47_code
def yX5_finding : MethodName := ⟨RX5, "finding", "()I"⟩
abbrev cX5_findings : ByteArray := prog_1_method_48_code
def yX5_findings : MethodName := ⟨RX5, "findings", "(I)I"⟩
abbrev cX5_digest : ByteArray := prog_1_method_49_code
def yX5_digest : MethodName := ⟨RX5, "digest", "()J"⟩
abbrev cX5_within : ByteArray := prog_1_method_50_code
def yX5_within : MethodName := ⟨RX5, "within", "(II)Z"⟩
abbrev cX5_holds : ByteArray := prog_1_method_51_code
def yX5_holds : MethodName := ⟨RX5, "holds", "(II)Z"⟩
abbrev cX5_isOfKind : ByteArray := prog_1_method_52_code
def yX5_isOfKind : MethodName := ⟨RX5, "isOfKind", "(II)Z"⟩
abbrev cX5_greatestDivisor : ByteArray := prog_1_method_53_code
def yX5_greatestDivisor : MethodName := ⟨RX5, "greatestDivisor", "(II)I"⟩
abbrev cX5_refuse : ByteArray := prog_1_method_54_code
def yX5_refuse : MethodName := ⟨RX5, "refuse", "(I)I"⟩
abbrev cX5_tell : ByteArray := prog_1_method_55_code
def yX5_tell : MethodName := ⟨RX5, "tell", "(I)I"⟩
abbrev cX5_renewed : ByteArray := prog_1_method_56_code
def yX5_renewed : MethodName := ⟨RX5, "renewed", "([LBackCourt$Row;III)I"⟩
abbrev cX5_refusalOfPlace : ByteArray := prog_1_method_57_code
def yX5_refusalOfPlace : MethodName := ⟨RX5, "refusalOfPlace", "(LBackCourt$Row;I)I"⟩
abbrev cX5_isKept : ByteArray := prog_1_method_58_code
def yX5_isKept : MethodName := ⟨RX5, "isKept", "(I)Z"⟩
abbrev cX5_findWays : ByteArray := prog_1_method_59_code
def yX5_findWays : MethodName := ⟨RX5, "findWays", "(I)V"⟩
abbrev cX5_fewest : ByteArray := prog_1_method_60_code
def yX5_fewest : MethodName := ⟨RX5, "fewest", "(III)I"⟩
abbrev cX5_canReach : ByteArray := prog_1_method_61_code
def yX5_canReach : MethodName := ⟨RX5, "canReach", "(IIII)Z"⟩
abbrev cX5_changedWithout : ByteArray := prog_1_method_62_code
def yX5_changedWithout : MethodName := ⟨RX5, "changedWithout", "(I)I"⟩
abbrev cX5_fileByLot : ByteArray := prog_1_method_63_code
def yX5_fileByLot : MethodName := ⟨RX5, "fileByLot", "(I)V"⟩
abbrev cX5_countOf : ByteArray := prog_1_method_64_code
def yX5_countOf : MethodName := ⟨RX5, "countOf", "(I)I"⟩
abbrev cX5_there : ByteArray := prog_1_method_65_code
def yX5_there : MethodName := ⟨RX5, "there", "([LBackCourt$Row;)I"⟩
def RX6 : String := "BackCourtModel"
def TX6 : u_T := fun k => match k with
  | 0 => ("BackCourtModel", "rowSize", "[I", true)
  | 1 => ("BackCourtModel", "rows", "[I", true)
  | 2 => ("BackCourtModel", "textSize", "[I", true)
  | 3 => ("BackCourtModel", "texts", "[I", true)
  | 4 => ("BackCourtModel", "spare", "[I", true)
  | 5 => ("BackCourtModel", "finding", "I", false)
  | 6 => ("BackCourtModel", "findings", "[I", true)
  | 7 => ("BackCourtModel", "asked", "I", false)
  | 8 => ("BackCourtModel", "upper", "J", false)
  | 9 => ("BackCourtModel", "lower", "J", false)
  | 10 => ("BackCourtModel", "many", "I", false)
  | 11 => ("BackCourtModel", "kind", "[I", true)
  | 12 => ("BackCourtModel", "day", "[I", true)
  | 13 => ("BackCourtModel", "verdict", "[I", true)
  | 14 => ("BackCourtModel", "cites", "[I", true)
  | 15 => ("BackCourtModel", "how", "[I", true)
  | 16 => ("BackCourtModel", "marks", "[I", true)
  | 17 => ("BackCourtModel", "keptMany", "[I", true)
  | 18 => ("BackCourtModel", "kept", "[I", true)
  | 19 => ("BackCourtModel", "there", "I", false)
  | 20 => ("BackCourtModel", "struck", "[I", true)
  | 21 => ("BackCourtModel", "ends", "I", false)
  | 22 => ("BackCourtModel", "faultAt", "I", false)
  | 23 => ("BackCourtModel", "item", "[I", true)
  | 24 => ("BackCourtModel", "days", "[I", true)
  | 25 => ("BackCourtModel", "standing", "I", false)
  | _ => ("BackCourtModel", "falling", "I", false)
def tyX6 : Nat → FieldType := fun k => match k with
  | 0 => .array .int
  | 1 => .array .int
  | 2 => .array .int
  | 3 => .array .int
  | 4 => .array .int
  | 5 => .int
  | 6 => .array .int
  | 7 => .int
  | 8 => .long
  | 9 => .long
  | 10 => .int
  | 11 => .array .int
  | 12 => .array .int
  | 13 => .array .int
  | 14 => .array .int
  | 15 => .array .int
  | 16 => .array .int
  | 17 => .array .int
  | 18 => .array .int
  | 19 => .int
  | 20 => .array .int
  | 21 => .int
  | 22 => .int
  | 23 => .array .int
  | 24 => .array .int
  | 25 => .int
  | _ => .int
abbrev wsX60 : List Cond := u_ws RX6 TX6 27
theorem nmX6 : ∀ a, a < 27 → ∀ b, b < 27 → a ≠ b → (TX6 a).2.1 ≠ (TX6 b).2.1 := by decide +kernel
theorem tyX6_ok : ∀ k, k < 27 → parseFieldDescriptor (TX6 k).2.2.1 = some (tyX6 k) := by decide +kernel
abbrev cX6_init : ByteArray := prog_8_method_1_code
def yX6_init : MethodName := ⟨RX6, "<init>", "()V"⟩
abbrev cX6_in : ByteArray := prog_8_method_3_code
def yX6_in : MethodName := ⟨RX6, "in", "(III)Z"⟩
abbrev cX6_has : ByteArray := prog_8_method_4_code
def yX6_has : MethodName := ⟨RX6, "has", "(II)Z"⟩
abbrev cX6_ones : ByteArray := prog_8_method_5_code
def yX6_ones : MethodName := ⟨RX6, "ones", "(I)I"⟩
abbrev cX6_finds : ByteArray := prog_8_method_6_code
def yX6_finds : MethodName := ⟨RX6, "finds", "(I)I"⟩
abbrev cX6_tells : ByteArray := prog_8_method_7_code
def yX6_tells : MethodName := ⟨RX6, "tells", "(I)I"⟩
abbrev cX6_isRow : ByteArray := prog_8_method_8_code
def yX6_isRow : MethodName := ⟨RX6, "isRow", "(I)Z"⟩
abbrev cX6_isText : ByteArray := prog_8_method_9_code
def yX6_isText : MethodName := ⟨RX6, "isText", "(I)Z"⟩
abbrev cX6_row : ByteArray := prog_8_method_10_code
def yX6_row : MethodName := ⟨RX6, "row", "(II)I"⟩
abbrev cX6_lay : ByteArray := prog_8_method_11_code
def yX6_lay : MethodName := ⟨RX6, "lay", "(III)I"⟩
abbrev cX6_at : ByteArray := prog_8_method_12_code
def yX6_at : MethodName := ⟨RX6, "at", "(II)I"⟩
abbrev cX6_tear : ByteArray := prog_8_method_13_code
def yX6_tear : MethodName := ⟨RX6, "tear", "(I)I"⟩
abbrev cX6_isPart : ByteArray := prog_8_method_14_code
def yX6_isPart : MethodName := ⟨RX6, "isPart", "(III)Z"⟩
abbrev cX6_copy : ByteArray := prog_8_method_15_code
def yX6_copy : MethodName := ⟨RX6, "copy", "(IIIII)I"⟩
abbrev cX6_mean : ByteArray := prog_8_method_16_code
def yX6_mean : MethodName := ⟨RX6, "mean", "(I)I"⟩
abbrev cX6_text : ByteArray := prog_8_method_17_code
def yX6_text : MethodName := ⟨RX6, "text", "(II)I"⟩
abbrev cX6_put : ByteArray := prog_8_method_18_code
def yX6_put : MethodName := ⟨RX6, "put", "(III)I"⟩
abbrev cX6_byteAt : ByteArray := prog_8_method_19_code
def yX6_byteAt : MethodName := ⟨RX6, "byteAt", "(II)I"⟩
abbrev cX6_kindOf : ByteArray := prog_8_method_20_code
def yX6_kindOf : MethodName := ⟨RX6, "kindOf", "(I)I"⟩
abbrev cX6_figure : ByteArray := prog_8_method_21_code
def yX6_figure : MethodName := ⟨RX6, "figure", "(III)I"⟩
abbrev cX6_faults : ByteArray := prog_8_method_22_code
def yX6_faults : MethodName := ⟨RX6, "faults", "(I)V"⟩
abbrev cX6_readsCitation : ByteArray := prog_8_method_23_code
def yX6_readsCitation : MethodName := ⟨RX6, "readsCitation", "(III)V"⟩
abbrev cX6_readsItem : ByteArray := prog_8_method_24_code
def yX6_readsItem : MethodName := ⟨RX6, "readsItem", "(III)V"⟩
abbrev cX6_reads : ByteArray := prog_8_method_25_code
def yX6_reads : MethodName := ⟨RX6, "reads", "(IZ)I"⟩
abbrev cX6_fault : ByteArray := prog_8_method_26_code
def yX6_fault : MethodName := ⟨RX6, "fault", "(I)I"⟩
abbrev cX6_adds : ByteArray := prog_8_method_27_code
def yX6_adds : MethodName := ⟨RX6, "adds", "(IIIIII)V"⟩
abbrev cX6_court : ByteArray := prog_8_method_28_code
def yX6_court : MethodName := ⟨RX6, "court", "(I)I"⟩
abbrev cX6_isRuling : ByteArray := prog_8_method_29_code
def yX6_isRuling : MethodName := ⟨RX6, "isRuling", "(I)Z"⟩
abbrev cX6_isSet : ByteArray := prog_8_method_30_code
def yX6_isSet : MethodName := ⟨RX6, "isSet", "(I)Z"⟩
abbrev cX6_citing : ByteArray := prog_8_method_31_code
def yX6_citing : MethodName := ⟨RX6, "citing", "(II)I"⟩
abbrev cX6_told : ByteArray := prog_8_method_32_code
def yX6_told : MethodName := ⟨RX6, "told", "(II)I"⟩
abbrev cX6_ruling : ByteArray := prog_8_method_33_code
def yX6_ruling : MethodName := ⟨RX6, "ruling", "(II)I"⟩
abbrev cX6_isOf : ByteArray := prog_8_method_34_code
def yX6_isOf : MethodName := ⟨RX6, "isOf", "(II)Z"⟩
abbrev cX6_depends : ByteArray := prog_8_method_35_code
def yX6_depends : MethodName := ⟨RX6, "depends", "(I)I"⟩
abbrev cX6_ofItsDay : ByteArray := prog_8_method_36_code
def yX6_ofItsDay : MethodName := ⟨RX6, "ofItsDay", "(I)I"⟩
abbrev cX6_mark : ByteArray := prog_8_method_37_code
def yX6_mark : MethodName := ⟨RX6, "mark", "(II)I"⟩
abbrev cX6_reverse : ByteArray := prog_8_method_38_code
def yX6_reverse : MethodName := ⟨RX6, "reverse", "(II)I"⟩
abbrev cX6_marks : ByteArray := prog_8_method_39_code
def yX6_marks : MethodName := ⟨RX6, "marks", "(II)I"⟩
abbrev cX6_file : ByteArray := prog_8_method_40_code
def yX6_file : MethodName := ⟨RX6, "file", "(IIIII)I"⟩
abbrev cX6_strike : ByteArray := prog_8_method_41_code
def yX6_strike : MethodName := ⟨RX6, "strike", "(I)I"⟩
abbrev cX6_keep : ByteArray := prog_8_method_42_code
def yX6_keep : MethodName := ⟨RX6, "keep", "(I)I"⟩
abbrev cX6_on : ByteArray := prog_8_method_43_code
def yX6_on : MethodName := ⟨RX6, "on", "(I)I"⟩
abbrev cX6_all : ByteArray := prog_8_method_44_code
def yX6_all : MethodName := ⟨RX6, "all", "()V"⟩
abbrev cX6_isDue : ByteArray := prog_8_method_45_code
def yX6_isDue : MethodName := ⟨RX6, "isDue", "(IIIII)Z"⟩
abbrev cX6_dueBy : ByteArray := prog_8_method_46_code
def yX6_dueBy : MethodName := ⟨RX6, "dueBy", "(I)I"⟩
abbrev cX6_isWay : ByteArray := prog_8_method_47_code
def yX6_isWay : MethodName := ⟨RX6, "isWay", "(I)Z"⟩
abbrev cX6_due : ByteArray := prog_8_method_48_code
def yX6_due : MethodName := ⟨RX6, "due", "(I)I"⟩
abbrev cX6_wayMany : ByteArray := prog_8_method_49_code
def yX6_wayMany : MethodName := ⟨RX6, "wayMany", "()I"⟩
abbrev cX6_firstWay : ByteArray := prog_8_method_50_code
def yX6_firstWay : MethodName := ⟨RX6, "firstWay", "()I"⟩
abbrev cX6_standsIn : ByteArray := prog_8_method_51_code
def yX6_standsIn : MethodName := ⟨RX6, "standsIn", "(I)I"⟩
abbrev cX6_ways : ByteArray := prog_8_method_52_code
def yX6_ways : MethodName := ⟨RX6, "ways", "()I"⟩
abbrev cX6_nth : ByteArray := prog_8_method_53_code
def yX6_nth : MethodName := ⟨RX6, "nth", "(I)I"⟩
abbrev cX6_findsSure : ByteArray := prog_8_method_54_code
def yX6_findsSure : MethodName := ⟨RX6, "findsSure", "()V"⟩
abbrev cX6_sure : ByteArray := prog_8_method_55_code
def yX6_sure : MethodName := ⟨RX6, "sure", "()I"⟩
abbrev cX6_odds : ByteArray := prog_8_method_56_code
def yX6_odds : MethodName := ⟨RX6, "odds", "(I)I"⟩
abbrev cX6_together : ByteArray := prog_8_method_57_code
def yX6_together : MethodName := ⟨RX6, "together", "(I)I"⟩
abbrev cX6_upTo : ByteArray := prog_8_method_58_code
def yX6_upTo : MethodName := ⟨RX6, "upTo", "(I)V"⟩
abbrev cX6_till : ByteArray := prog_8_method_59_code
def yX6_till : MethodName := ⟨RX6, "till", "(I)I"⟩
abbrev cX6_flips : ByteArray := prog_8_method_60_code
def yX6_flips : MethodName := ⟨RX6, "flips", "(I)I"⟩
abbrev cX6_jam : ByteArray := prog_8_method_61_code
def yX6_jam : MethodName := ⟨RX6, "jam", "()I"⟩
abbrev cX6_isReached : ByteArray := prog_8_method_62_code
def yX6_isReached : MethodName := ⟨RX6, "isReached", "(II)Z"⟩
abbrev cX6_power : ByteArray := prog_8_method_63_code
def yX6_power : MethodName := ⟨RX6, "power", "(II)I"⟩
abbrev cX6_strikes : ByteArray := prog_8_method_64_code
def yX6_strikes : MethodName := ⟨RX6, "strikes", "(II)Z"⟩
abbrev cX6_files : ByteArray := prog_8_method_65_code
def yX6_files : MethodName := ⟨RX6, "files", "(III)I"⟩
abbrev cX6_fell : ByteArray := prog_8_method_66_code
def yX6_fell : MethodName := ⟨RX6, "fell", "(II)I"⟩
abbrev cX6_guard : ByteArray := prog_8_method_67_code
def yX6_guard : MethodName := ⟨RX6, "guard", "(II)I"⟩
abbrev cX6_settle : ByteArray := prog_8_method_68_code
def yX6_settle : MethodName := ⟨RX6, "settle", "(I)I"⟩
abbrev cX6_otherwise : ByteArray := prog_8_method_69_code
def yX6_otherwise : MethodName := ⟨RX6, "otherwise", "(I)I"⟩
abbrev cX6_matter : ByteArray := prog_8_method_70_code
def yX6_matter : MethodName := ⟨RX6, "matter", "(I)I"⟩
abbrev cX6_judge : ByteArray := prog_8_method_71_code
def yX6_judge : MethodName := ⟨RX6, "judge", "()I"⟩
abbrev cX6_likeness : ByteArray := prog_8_method_72_code
def yX6_likeness : MethodName := ⟨RX6, "likeness", "(II)I"⟩
abbrev cX6_like : ByteArray := prog_8_method_73_code
def yX6_like : MethodName := ⟨RX6, "like", "(II)I"⟩
abbrev cX6_verdictBy : ByteArray := prog_8_method_74_code
def yX6_verdictBy : MethodName := ⟨RX6, "verdictBy", "(III)I"⟩
abbrev cX6_verdict : ByteArray := prog_8_method_75_code
def yX6_verdict : MethodName := ⟨RX6, "verdict", "(II)I"⟩
abbrev cX6_surely : ByteArray := prog_8_method_76_code
def yX6_surely : MethodName := ⟨RX6, "surely", "(I)I"⟩
abbrev cX6_freed : ByteArray := prog_8_method_77_code
def yX6_freed : MethodName := ⟨RX6, "freed", "(I)I"⟩
abbrev cX6_agrees : ByteArray := prog_8_method_78_code
def yX6_agrees : MethodName := ⟨RX6, "agrees", "(II)Z"⟩
abbrev cX6_code : ByteArray := prog_8_method_79_code
def yX6_code : MethodName := ⟨RX6, "code", "()I"⟩
abbrev cX6_kinds : ByteArray := prog_8_method_80_code
def yX6_kinds : MethodName := ⟨RX6, "kinds", "(II)I"⟩
abbrev cX6_forged : ByteArray := prog_8_method_81_code
def yX6_forged : MethodName := ⟨RX6, "forged", "(I)I"⟩
abbrev cX6_torn : ByteArray := prog_8_method_82_code
def yX6_torn : MethodName := ⟨RX6, "torn", "(II)I"⟩
abbrev cX6_ahead : ByteArray := prog_8_method_83_code
def yX6_ahead : MethodName := ⟨RX6, "ahead", "(I)I"⟩
abbrev cX6_nthAhead : ByteArray := prog_8_method_84_code
def yX6_nthAhead : MethodName := ⟨RX6, "nthAhead", "(II)I"⟩
abbrev cX6_lots : ByteArray := prog_8_method_85_code
def yX6_lots : MethodName := ⟨RX6, "lots", "(II)I"⟩
abbrev cX6_asked : ByteArray := prog_8_method_86_code
def yX6_asked : MethodName := ⟨RX6, "asked", "()I"⟩
abbrev cX6_upper : ByteArray := prog_8_method_87_code
def yX6_upper : MethodName := ⟨RX6, "upper", "()J"⟩
abbrev cX6_lower : ByteArray := prog_8_method_88_code
def yX6_lower : MethodName := ⟨RX6, "lower", "()J"⟩
abbrev cX6_counted : ByteArray := prog_8_method_89_code
def yX6_counted : MethodName := ⟨RX6, "counted", "(I)I"⟩
abbrev cX6_count : ByteArray := prog_8_method_90_code
def yX6_count : MethodName := ⟨RX6, "count", "(I)I"⟩
abbrev cX6_finding : ByteArray := prog_8_method_91_code
def yX6_finding : MethodName := ⟨RX6, "finding", "()I"⟩
abbrev cX6_findings : ByteArray := prog_8_method_92_code
def yX6_findings : MethodName := ⟨RX6, "findings", "(I)I"⟩
abbrev cX6_digest : ByteArray := prog_8_method_93_code
def yX6_digest : MethodName := ⟨RX6, "digest", "()J"⟩
def RJ6 : String := "java/lang/Integer"
def TJ6 : u_T := fun k => match k with
  | _ => ("", "", "", false)
def tyJ6 : Nat → FieldType := fun k => match k with
  | _ => .int
abbrev wsJ60 : List Cond := u_ws RJ6 TJ6 0
theorem nmJ6 : ∀ a, a < 0 → ∀ b, b < 0 → a ≠ b → (TJ6 a).2.1 ≠ (TJ6 b).2.1 := by decide +kernel
theorem tyJ6_ok : ∀ k, k < 0 → parseFieldDescriptor (TJ6 k).2.2.1 = some (tyJ6 k) := by decide +kernel
abbrev cJ6_bitCount_0f7a4 : ByteArray := prog_9_method_49_code
def yJ6_bitCount_0f7a4 : MethodName := ⟨RJ6, "bitCount", "(I)I"⟩
def RJ9 : String := "java/lang/Math"
def TJ9 : u_T := fun k => match k with
  | _ => ("", "", "", false)
def tyJ9 : Nat → FieldType := fun k => match k with
  | _ => .int
abbrev wsJ90 : List Cond := u_ws RJ9 TJ9 0
theorem nmJ9 : ∀ a, a < 0 → ∀ b, b < 0 → a ≠ b → (TJ9 a).2.1 ≠ (TJ9 b).2.1 := by decide +kernel
theorem tyJ9_ok : ∀ k, k < 0 → parseFieldDescriptor (TJ9 k).2.2.1 = some (tyJ9 k) := by decide +kernel
abbrev cJ9_max_7cf53 : ByteArray := prog_10_method_65_code
def yJ9_max_7cf53 : MethodName := ⟨RJ9, "max", "(II)I"⟩
abbrev cJ9_min_7cf53 : ByteArray := prog_10_method_69_code
def yJ9_min_7cf53 : MethodName := ⟨RJ9, "min", "(II)I"⟩
def RJ10 : String := "java/lang/System"
def TJ10 : u_T := fun k => match k with
  | _ => ("", "", "", false)
def tyJ10 : Nat → FieldType := fun k => match k with
  | _ => .int
abbrev wsJ100 : List Cond := u_ws RJ10 TJ10 0
theorem nmJ10 : ∀ a, a < 0 → ∀ b, b < 0 → a ≠ b → (TJ10 a).2.1 ≠ (TJ10 b).2.1 := by decide +kernel
theorem tyJ10_ok : ∀ k, k < 0 → parseFieldDescriptor (TJ10 k).2.2.1 = some (tyJ10 k) := by decide +kernel
def RL : String := "BackCourtLaw"
abbrev cL_law : ByteArray := code
def yL_law : MethodName := ⟨RL, "law", "([I)Z"⟩
end
section
/-! the machine of numbers: cells, values, instructions as data -/
abbrev mm_C : Type := (Nat × List Value) ⊕ ((Nat × (Nat → Int32)) ⊕ ((Nat × Nat × (Nat → Option Nat)) ⊕ (Nat × (Nat → Int32))))
abbrev mm_H : Type := Nat × (Nat → mm_C)
abbrev mm_N : Type := Nat × Instr × Nat × Nat × Nat × Value × Bool
abbrev mm_K : Type := Option Value → mm_H → Prop
abbrev mm_X : Type := Nat → Nat → Nat → (Nat × Nat) → List Value → List Value → mm_H → mm_K → Prop
/-- an object of a kind, its fields -/
def mO (ci : Nat) (fs : List Value) : mm_C := .inl (ci, fs)
/-- an array of ints -/
def mI (n : Nat) (f : Nat → Int32) : mm_C := .inr (.inl (n, f))
/-- an array of references to objects of a kind -/
def mR (ci n : Nat) (f : Nat → Option Nat) : mm_C := .inr (.inr (.inl (ci, n, f)))
/-- an array of ints that nobody writes -/
def mE (n : Nat) (f : Nat → Int32) : mm_C := .inr (.inr (.inr (n, f)))
def mU (h : Nat → mm_C) (k : Nat) (c : mm_C) : Nat → mm_C := fun j => if j = k then c else h j
def mm_ld : List Value → Nat → (Value → Prop) → Prop
  | [], _, _ => False
  | v :: _, 0, K => K v
  | _ :: l, k + 1, K => mm_ld l k K
def mm_set : List Value → Nat → Value → (List Value → Prop) → Prop
  | [], _, _, _ => False
  | _ :: l, 0, v, K => K (v :: l)
  | a :: l, k + 1, v, K => mm_set l k v (fun l' => K (a :: l'))
def mm_st : List Value → Nat → Value → (List Value → Prop) → Prop
  | [], _, _, _ => False
  | _ :: l, 0, v, K => K (v :: l)
  | .long _ :: _, 1, _, _ => False
  | a :: l, k + 1, v, K => mm_st l k v (fun l' => K (a :: l'))
def mm_st2 : List Value → Nat → Value → (List Value → Prop) → Prop
  | [], _, _, _ => False
  | [_], _, _, _ => False
  | _ :: _ :: l, 0, v, K => K (v :: .null :: l)
  | .long _ :: _ :: _, 1, _, _ => False
  | a :: l, k + 1, v, K => mm_st2 l k v (fun l' => K (a :: l'))
def mm_ex : List Value → List Value
  | [] => []
  | .long x :: l => .long x :: .null :: mm_ex l
  | v :: l => v :: mm_ex l
def mm_ent (n : Nat) (args : List Value) : List Value := mm_ex args ++ List.replicate (n - (mm_ex args).length) .null
def mm_pop : Nat → List Value → List Value → (List Value → List Value → Prop) → Prop
  | 0, st, acc, K => K acc st
  | _ + 1, [], _, _ => False
  | n + 1, v :: st, acc, K => mm_pop n st (v :: acc) K
/-- the default fields of an object of a kind -/
def mm_def : Nat → List Value
  | 0 => [.null, .null, .null, .null, .null, .null, .int 0, .int 0]
  | 1 => [.null, .null, .null, .null, .null, .null, .int 0]
  | 2 => [.null, .null, .int 0]
  | 3 => [.null, .int 0]
  | 4 => [.null, .int 0, .int 0, .int 0, .int 0]
  | 5 => [.null, .null, .null, .null, .null, .null, .null, .null, .null, .int 0, .int 0, .long 0, .long 0]
  | 6 => [.null, .null, .null, .null, .null, .int 0, .null, .int 0, .long 0, .long 0, .int 0, .null, .null, .null, .null, .null, .null, .null, .null, .int 0, .null, .int 0, .int 0, .null, .null, .int 0, .int 0]
  | _ => []
/-- what a field of a kind may hold, told by what stands there by default: an int, a long, a reference -/
def mm_fit : Value → Value → Bool
  | .int _, .int _ => true
  | .long _, .long _ => true
  | .null, .ref _ => true
  | _, _ => false
/-- the values that locals and arguments hold -/
def mm_kd : Value → Bool
  | .int _ => true
  | .long _ => true
  | .ref _ => true
  | _ => false
def mm_akd : List Value → Bool
  | [] => true
  | v :: l => mm_kd v && mm_akd l
/-- so many cells there are when the two objects are made; none is made later -/
def mm_full : Nat := 93
end
section
/-! code as data: (place, instruction, next, a, b, constant, cut) -/
def q_X0_init_0 : List mm_N := [(0, .aload_n 0, 1, 0, 0, .null, false),
  (1, .invokespecial 3, 2, 1000, 1, .null, false),
  (4, .aload_n 0, 3, 0, 0, .null, false),
  (5, .bipush 9, 4, 0, 0, .int 9, false),
  (7, .newarray .int, 5, 0, 0, .null, false),
  (9, .putfield 9, 6, 0, 0, .null, false),
  (12, .aload_n 0, 7, 0, 0, .null, false),
  (13, .bipush 9, 8, 0, 0, .int 9, false),
  (15, .newarray .int, 9, 0, 0, .null, false),
  (17, .putfield 15, 10, 0, 1, .null, false),
  (20, .aload_n 0, 11, 0, 0, .null, false),
  (21, .bipush 9, 12, 0, 0, .int 9, false),
  (23, .newarray .int, 13, 0, 0, .null, false),
  (25, .putfield 18, 14, 0, 2, .null, false),
  (28, .aload_n 0, 15, 0, 0, .null, false),
  (29, .bipush 9, 16, 0, 0, .int 9, false),
  (31, .newarray .int, 17, 0, 0, .null, false),
  (33, .putfield 21, 18, 0, 3, .null, false),
  (36, .aload_n 0, 19, 0, 0, .null, false),
  (37, .bipush 9, 20, 0, 0, .int 9, false),
  (39, .newarray .int, 21, 0, 0, .null, false),
  (41, .putfield 24, 22, 0, 4, .null, false),
  (44, .aload_n 0, 23, 0, 0, .null, false),
  (45, .bipush 9, 24, 0, 0, .int 9, false),
  (47, .newarray .int, 25, 0, 0, .null, false),
  (49, .putfield 27, 26, 0, 5, .null, false),
  (52, .aload_n 0, 27, 0, 0, .null, false),
  (53, .iconst 0, 28, 0, 0, .int 0, false),
  (54, .putfield 30, 29, 0, 6, .null, false),
  (57, .aload_n 0, 30, 0, 0, .null, false),
  (58, .iconst 0, 31, 0, 0, .int 0, false),
  (59, .putfield 34, 32, 0, 7, .null, false)]
def q_X0_init_1 : List mm_N := [(62, .return_, 0, 0, 0, .null, false)]
def q_X0_init : List (List mm_N) := [q_X0_init_0, q_X0_init_1]
def q_X0_seat_0 : List mm_N := [(0, .aload_n 0, 1, 0, 0, .null, false),
  (1, .aload_n 1, 2, 1, 0, .null, false),
  (2, .getfield 37, 3, 1, 6, .null, false),
  (5, .putfield 34, 4, 0, 7, .null, false),
  (8, .aload_n 0, 5, 0, 0, .null, false),
  (9, .iconst 0, 6, 0, 0, .int 0, false),
  (10, .putfield 30, 7, 0, 6, .null, false),
  (13, .iconst 0, 8, 0, 0, .int 0, false),
  (14, .istore_n 2, 9, 2, 0, .null, false),
  (15, .iload_n 2, 10, 2, 0, .null, true),
  (16, .aload_n 0, 11, 0, 0, .null, false),
  (17, .getfield 34, 12, 0, 7, .null, false),
  (20, .if_icmp .ge 60, 13, 50, 0, .null, false),
  (23, .aload_n 0, 14, 0, 0, .null, false),
  (24, .getfield 9, 15, 0, 0, .null, false),
  (27, .iload_n 2, 16, 2, 0, .null, false),
  (28, .aload_n 1, 17, 1, 0, .null, false),
  (29, .getfield 40, 18, 1, 0, .null, false),
  (32, .iload_n 2, 19, 2, 0, .null, false),
  (33, .iaload, 20, 0, 0, .null, false),
  (34, .iastore, 21, 0, 0, .null, false),
  (35, .aload_n 0, 22, 0, 0, .null, false),
  (36, .getfield 15, 23, 0, 1, .null, false),
  (39, .iload_n 2, 24, 2, 0, .null, false),
  (40, .iconst 0, 25, 0, 0, .int 0, false),
  (41, .iastore, 26, 0, 0, .null, false),
  (42, .aload_n 0, 27, 0, 0, .null, false),
  (43, .getfield 18, 28, 0, 2, .null, false),
  (46, .iload_n 2, 29, 2, 0, .null, false),
  (47, .iconst 0, 30, 0, 0, .int 0, false),
  (48, .iastore, 31, 0, 0, .null, false),
  (49, .aload_n 0, 32, 0, 0, .null, false)]
def q_X0_seat_1 : List mm_N := [(50, .getfield 21, 33, 0, 3, .null, false),
  (53, .iload_n 2, 34, 2, 0, .null, false),
  (54, .iconst 0, 35, 0, 0, .int 0, false),
  (55, .iastore, 36, 0, 0, .null, false),
  (56, .aload_n 0, 37, 0, 0, .null, false),
  (57, .getfield 24, 38, 0, 4, .null, false),
  (60, .iload_n 2, 39, 2, 0, .null, false),
  (61, .aload_n 1, 40, 1, 0, .null, false),
  (62, .iload_n 2, 41, 2, 0, .null, false),
  (63, .invokevirtual 41, 42, 19, 2, .null, false),
  (66, .iastore, 43, 0, 0, .null, false),
  (67, .aload_n 0, 44, 0, 0, .null, false),
  (68, .getfield 27, 45, 0, 5, .null, false),
  (71, .iload_n 2, 46, 2, 0, .null, false),
  (72, .iconst 0, 47, 0, 0, .int 0, false),
  (73, .iastore, 48, 0, 0, .null, false),
  (74, .iinc 2 1, 49, 2, 0, .int 1, false),
  (77, .goto (-62), 0, 9, 0, .null, false),
  (80, .iconst 0, 51, 0, 0, .int 0, false),
  (81, .istore_n 2, 52, 2, 0, .null, false),
  (82, .iload_n 2, 53, 2, 0, .null, true),
  (83, .aload_n 0, 54, 0, 0, .null, false),
  (84, .getfield 34, 55, 0, 7, .null, false),
  (87, .if_icmp .ge 86, 56, 109, 0, .null, false),
  (90, .aload_n 1, 57, 1, 0, .null, false),
  (91, .getfield 45, 58, 1, 3, .null, false),
  (94, .iload_n 2, 59, 2, 0, .null, false),
  (95, .iaload, 60, 0, 0, .null, false),
  (96, .istore_n 3, 61, 3, 0, .null, false),
  (97, .iload_n 3, 62, 3, 0, .null, false),
  (98, .aload_n 0, 63, 0, 0, .null, false),
  (99, .getfield 34, 64, 0, 7, .null, false)]
def q_X0_seat_2 : List mm_N := [(102, .invokestatic 48, 65, 100, 2, .null, false),
  (105, .ifCond .eq 62, 66, 107, 0, .null, false),
  (108, .aload_n 0, 67, 0, 0, .null, false),
  (109, .getfield 21, 68, 0, 3, .null, false),
  (112, .iload_n 2, 69, 2, 0, .null, false),
  (113, .iconst 1, 70, 0, 0, .int 1, false),
  (114, .iload_n 3, 71, 3, 0, .null, false),
  (115, .ishl, 72, 0, 0, .null, false),
  (116, .iastore, 73, 0, 0, .null, false),
  (117, .aload_n 0, 74, 0, 0, .null, false),
  (118, .getfield 15, 75, 0, 1, .null, false),
  (121, .iload_n 3, 76, 3, 0, .null, false),
  (122, .dup2, 77, 0, 0, .null, false),
  (123, .iaload, 78, 0, 0, .null, false),
  (124, .aload_n 1, 79, 1, 0, .null, false),
  (125, .getfield 52, 80, 1, 4, .null, false),
  (128, .iload_n 2, 81, 2, 0, .null, false),
  (129, .iaload, 82, 0, 0, .null, false),
  (130, .ifCond .ge 9, 83, 87, 0, .null, false),
  (133, .iconst 1, 84, 0, 0, .int 1, false),
  (134, .iload_n 2, 85, 2, 0, .null, false),
  (135, .ishl, 86, 0, 0, .null, false),
  (136, .goto 4, 0, 88, 0, .null, false),
  (139, .iconst 0, 88, 0, 0, .int 0, false),
  (140, .ior, 89, 0, 0, .null, true),
  (141, .iastore, 90, 0, 0, .null, false),
  (142, .aload_n 0, 91, 0, 0, .null, false),
  (143, .getfield 18, 92, 0, 2, .null, false),
  (146, .iload_n 3, 93, 3, 0, .null, false),
  (147, .dup2, 94, 0, 0, .null, false),
  (148, .iaload, 95, 0, 0, .null, false),
  (149, .aload_n 1, 96, 1, 0, .null, false)]
def q_X0_seat_3 : List mm_N := [(150, .getfield 52, 97, 1, 4, .null, false),
  (153, .iload_n 2, 98, 2, 0, .null, false),
  (154, .iaload, 99, 0, 0, .null, false),
  (155, .ifCond .le 9, 100, 104, 0, .null, false),
  (158, .iconst 1, 101, 0, 0, .int 1, false),
  (159, .iload_n 2, 102, 2, 0, .null, false),
  (160, .ishl, 103, 0, 0, .null, false),
  (161, .goto 4, 0, 105, 0, .null, false),
  (164, .iconst 0, 105, 0, 0, .int 0, false),
  (165, .ior, 106, 0, 0, .null, true),
  (166, .iastore, 107, 0, 0, .null, false),
  (167, .iinc 2 1, 108, 2, 0, .int 1, true),
  (170, .goto (-88), 0, 52, 0, .null, false),
  (173, .return_, 0, 0, 0, .null, false)]
def q_X0_seat : List (List mm_N) := [q_X0_seat_0, q_X0_seat_1, q_X0_seat_2, q_X0_seat_3]
def q_X0_forgetCitation_0 : List mm_N := [(0, .iconst 0, 1, 0, 0, .int 0, false),
  (1, .istore_n 2, 2, 2, 0, .null, false),
  (2, .iload_n 2, 3, 2, 0, .null, true),
  (3, .aload_n 0, 4, 0, 0, .null, false),
  (4, .getfield 34, 5, 0, 7, .null, false),
  (7, .if_icmp .ge 37, 6, 32, 0, .null, false),
  (10, .aload_n 0, 7, 0, 0, .null, false),
  (11, .getfield 15, 8, 0, 1, .null, false),
  (14, .iload_n 2, 9, 2, 0, .null, false),
  (15, .dup2, 10, 0, 0, .null, false),
  (16, .iaload, 11, 0, 0, .null, false),
  (17, .iconst 1, 12, 0, 0, .int 1, false),
  (18, .iload_n 1, 13, 1, 0, .null, false),
  (19, .ishl, 14, 0, 0, .null, false),
  (20, .iconst (-1), 15, 0, 0, .int (-1), false),
  (21, .ixor, 16, 0, 0, .null, false),
  (22, .iand, 17, 0, 0, .null, false),
  (23, .iastore, 18, 0, 0, .null, false),
  (24, .aload_n 0, 19, 0, 0, .null, false),
  (25, .getfield 18, 20, 0, 2, .null, false),
  (28, .iload_n 2, 21, 2, 0, .null, false),
  (29, .dup2, 22, 0, 0, .null, false),
  (30, .iaload, 23, 0, 0, .null, false),
  (31, .iconst 1, 24, 0, 0, .int 1, false),
  (32, .iload_n 1, 25, 1, 0, .null, false),
  (33, .ishl, 26, 0, 0, .null, false),
  (34, .iconst (-1), 27, 0, 0, .int (-1), false),
  (35, .ixor, 28, 0, 0, .null, false),
  (36, .iand, 29, 0, 0, .null, false),
  (37, .iastore, 30, 0, 0, .null, false),
  (38, .iinc 2 1, 31, 2, 0, .int 1, false),
  (41, .goto (-39), 0, 2, 0, .null, false)]
def q_X0_forgetCitation_1 : List mm_N := [(44, .iload_n 1, 33, 1, 0, .null, false),
  (45, .aload_n 0, 34, 0, 0, .null, false),
  (46, .getfield 34, 35, 0, 7, .null, false),
  (49, .invokestatic 48, 36, 100, 2, .null, false),
  (52, .ifCond .eq 10, 37, 42, 0, .null, false),
  (55, .aload_n 0, 38, 0, 0, .null, false),
  (56, .getfield 21, 39, 0, 3, .null, false),
  (59, .iload_n 1, 40, 1, 0, .null, false),
  (60, .iconst 0, 41, 0, 0, .int 0, false),
  (61, .iastore, 42, 0, 0, .null, false),
  (62, .return_, 0, 0, 0, .null, true)]
def q_X0_forgetCitation : List (List mm_N) := [q_X0_forgetCitation_0, q_X0_forgetCitation_1]
def q_X0_isMovedByOneMore_0 : List mm_N := [(0, .aload_n 0, 1, 0, 0, .null, false),
  (1, .getfield 9, 2, 0, 0, .null, false),
  (4, .iload_n 1, 3, 1, 0, .null, false),
  (5, .iaload, 4, 0, 0, .null, false),
  (6, .iconst 5, 5, 0, 0, .int 5, false),
  (7, .if_icmp .eq 31, 6, 22, 0, .null, false),
  (10, .aload_n 0, 7, 0, 0, .null, false),
  (11, .getfield 27, 8, 0, 5, .null, false),
  (14, .iload_n 1, 9, 1, 0, .null, false),
  (15, .iaload, 10, 0, 0, .null, false),
  (16, .aload_n 0, 11, 0, 0, .null, false),
  (17, .getfield 9, 12, 0, 0, .null, false),
  (20, .iload_n 1, 13, 1, 0, .null, false),
  (21, .iaload, 14, 0, 0, .null, false),
  (22, .iconst 2, 15, 0, 0, .int 2, false),
  (23, .if_icmp .ne 7, 16, 18, 0, .null, false),
  (26, .iconst 2, 17, 0, 0, .int 2, false),
  (27, .goto 4, 0, 19, 0, .null, false),
  (30, .iconst 1, 19, 0, 0, .int 1, false),
  (31, .if_icmp .ge 7, 20, 22, 0, .null, true),
  (34, .iconst 1, 21, 0, 0, .int 1, false),
  (35, .goto 4, 0, 23, 0, .null, false),
  (38, .iconst 0, 23, 0, 0, .int 0, true),
  (39, .ireturn, 0, 0, 0, .null, true)]
def q_X0_isMovedByOneMore : List (List mm_N) := [q_X0_isMovedByOneMore_0]
def q_X0_isToStand_0 : List mm_N := [(0, .aload_n 0, 1, 0, 0, .null, false),
  (1, .getfield 30, 2, 0, 6, .null, false),
  (4, .iload_n 1, 3, 1, 0, .null, false),
  (5, .invokestatic 55, 4, 101, 2, .null, false),
  (8, .ifCond .eq 5, 5, 7, 0, .null, false),
  (11, .iconst 0, 6, 0, 0, .int 0, false),
  (12, .ireturn, 0, 0, 0, .null, false),
  (13, .aload_n 0, 8, 0, 0, .null, false),
  (14, .getfield 15, 9, 0, 1, .null, false),
  (17, .iload_n 1, 10, 1, 0, .null, false),
  (18, .iaload, 11, 0, 0, .null, false),
  (19, .iload_n 2, 12, 2, 0, .null, false),
  (20, .iand, 13, 0, 0, .null, false),
  (21, .invokestatic 58, 14, 208, 1, .null, false),
  (24, .aload_n 0, 15, 0, 0, .null, false),
  (25, .getfield 27, 16, 0, 5, .null, false),
  (28, .iload_n 1, 17, 1, 0, .null, false),
  (29, .iaload, 18, 0, 0, .null, false),
  (30, .iadd, 19, 0, 0, .null, false),
  (31, .istore_n 3, 20, 3, 0, .null, false),
  (32, .aload_n 0, 21, 0, 0, .null, false),
  (33, .getfield 9, 22, 0, 0, .null, false),
  (36, .iload_n 1, 23, 1, 0, .null, false),
  (37, .iaload, 24, 0, 0, .null, false),
  (38, .tableswitch 125 1 5 #[34, 57, 68, 89, 123], 0, 0, 84, .null, false),
  (72, .iload_n 3, 26, 3, 0, .null, false),
  (73, .ifCond .ne 20, 27, 38, 0, .null, false),
  (76, .aload_n 0, 28, 0, 0, .null, false),
  (77, .getfield 21, 29, 0, 3, .null, false),
  (80, .iload_n 1, 30, 1, 0, .null, false),
  (81, .iaload, 31, 0, 0, .null, false),
  (82, .iload_n 2, 32, 2, 0, .null, false)]
def q_X0_isToStand_1 : List mm_N := [(83, .iconst (-1), 33, 0, 0, .int (-1), false),
  (84, .ixor, 34, 0, 0, .null, false),
  (85, .iand, 35, 0, 0, .null, false),
  (86, .ifCond .ne 7, 36, 38, 0, .null, false),
  (89, .iconst 1, 37, 0, 0, .int 1, false),
  (90, .goto 4, 0, 39, 0, .null, false),
  (93, .iconst 0, 39, 0, 0, .int 0, true),
  (94, .ireturn, 0, 0, 0, .null, true),
  (95, .iload_n 3, 41, 3, 0, .null, false),
  (96, .iconst 2, 42, 0, 0, .int 2, false),
  (97, .if_icmp .ge 7, 43, 45, 0, .null, false),
  (100, .iconst 1, 44, 0, 0, .int 1, false),
  (101, .goto 4, 0, 46, 0, .null, false),
  (104, .iconst 0, 46, 0, 0, .int 0, false),
  (105, .ireturn, 0, 0, 0, .null, true),
  (106, .iload_n 3, 48, 3, 0, .null, false),
  (107, .ifCond .ne 18, 49, 58, 0, .null, false),
  (110, .aload_n 0, 50, 0, 0, .null, false),
  (111, .getfield 18, 51, 0, 2, .null, false),
  (114, .iload_n 1, 52, 1, 0, .null, false),
  (115, .iaload, 53, 0, 0, .null, false),
  (116, .iload_n 2, 54, 2, 0, .null, false),
  (117, .iand, 55, 0, 0, .null, false),
  (118, .ifCond .eq 7, 56, 58, 0, .null, false),
  (121, .iconst 1, 57, 0, 0, .int 1, false),
  (122, .goto 4, 0, 59, 0, .null, false),
  (125, .iconst 0, 59, 0, 0, .int 0, true),
  (126, .ireturn, 0, 0, 0, .null, true),
  (127, .iload_n 3, 61, 3, 0, .null, false),
  (128, .ifCond .ne 31, 62, 80, 0, .null, false),
  (131, .aload_n 0, 63, 0, 0, .null, false),
  (132, .getfield 21, 64, 0, 3, .null, false)]
def q_X0_isToStand_2 : List mm_N := [(135, .iload_n 1, 65, 1, 0, .null, false),
  (136, .iaload, 66, 0, 0, .null, false),
  (137, .iload_n 2, 67, 2, 0, .null, false),
  (138, .iconst (-1), 68, 0, 0, .int (-1), false),
  (139, .ixor, 69, 0, 0, .null, false),
  (140, .iand, 70, 0, 0, .null, false),
  (141, .ifCond .ne 18, 71, 80, 0, .null, false),
  (144, .aload_n 0, 72, 0, 0, .null, false),
  (145, .getfield 24, 73, 0, 4, .null, false),
  (148, .iload_n 1, 74, 1, 0, .null, false),
  (149, .iaload, 75, 0, 0, .null, false),
  (150, .iload_n 2, 76, 2, 0, .null, false),
  (151, .iand, 77, 0, 0, .null, false),
  (152, .ifCond .eq 7, 78, 80, 0, .null, false),
  (155, .iconst 1, 79, 0, 0, .int 1, false),
  (156, .goto 4, 0, 81, 0, .null, false),
  (159, .iconst 0, 81, 0, 0, .int 0, true),
  (160, .ireturn, 0, 0, 0, .null, true),
  (161, .iconst 1, 83, 0, 0, .int 1, false),
  (162, .ireturn, 0, 0, 0, .null, false),
  (163, .iload_n 3, 85, 3, 0, .null, false),
  (164, .ifCond .ne 7, 86, 88, 0, .null, false),
  (167, .iconst 1, 87, 0, 0, .int 1, false),
  (168, .goto 4, 0, 89, 0, .null, false),
  (171, .iconst 0, 89, 0, 0, .int 0, false),
  (172, .ireturn, 0, 0, 0, .null, true)]
def q_X0_isToStand : List (List mm_N) := [q_X0_isToStand_0, q_X0_isToStand_1, q_X0_isToStand_2]
def q_X0_clash_0 : List mm_N := [(0, .aload_n 0, 1, 0, 0, .null, false),
  (1, .getfield 34, 2, 0, 7, .null, false),
  (4, .iconst 1, 3, 0, 0, .int 1, false),
  (5, .isub, 4, 0, 0, .null, false),
  (6, .istore_n 2, 5, 2, 0, .null, false),
  (7, .iload_n 2, 6, 2, 0, .null, true),
  (8, .ifCond .lt 34, 7, 26, 0, .null, false),
  (11, .aload_n 0, 8, 0, 0, .null, false),
  (12, .iload_n 2, 9, 2, 0, .null, false),
  (13, .iload_n 1, 10, 1, 0, .null, false),
  (14, .invokevirtual 63, 11, 4, 3, .null, false),
  (17, .iload_n 1, 12, 1, 0, .null, false),
  (18, .iload_n 2, 13, 2, 0, .null, false),
  (19, .invokestatic 55, 14, 101, 2, .null, false),
  (22, .if_icmp .eq 14, 15, 24, 0, .null, false),
  (25, .aload_n 0, 16, 0, 0, .null, false),
  (26, .iload_n 2, 17, 2, 0, .null, false),
  (27, .invokevirtual 66, 18, 6, 2, .null, false),
  (30, .istore_n 3, 19, 3, 0, .null, false),
  (31, .iload_n 3, 20, 3, 0, .null, false),
  (32, .iload_n 3, 21, 3, 0, .null, false),
  (33, .ineg, 22, 0, 0, .null, false),
  (34, .iand, 23, 0, 0, .null, false),
  (35, .ireturn, 0, 0, 0, .null, false),
  (36, .iinc 2 (-1), 25, 2, 0, .int (-1), false),
  (39, .goto (-32), 0, 5, 0, .null, false),
  (42, .iconst 0, 27, 0, 0, .int 0, false),
  (43, .ireturn, 0, 0, 0, .null, false)]
def q_X0_clash : List (List mm_N) := [q_X0_clash_0]
def q_X0_mattersTo_0 : List mm_N := [(0, .iconst 1, 1, 0, 0, .int 1, false),
  (1, .iload_n 1, 2, 1, 0, .null, false),
  (2, .ishl, 3, 0, 0, .null, false),
  (3, .istore_n 2, 4, 2, 0, .null, false),
  (4, .aload_n 0, 5, 0, 0, .null, false),
  (5, .getfield 9, 6, 0, 0, .null, false),
  (8, .iload_n 1, 7, 1, 0, .null, false),
  (9, .iaload, 8, 0, 0, .null, false),
  (10, .iconst 1, 9, 0, 0, .int 1, false),
  (11, .invokestatic 69, 10, 102, 2, .null, false),
  (14, .ifCond .eq 12, 11, 18, 0, .null, false),
  (17, .iload_n 2, 12, 2, 0, .null, false),
  (18, .aload_n 0, 13, 0, 0, .null, false),
  (19, .getfield 21, 14, 0, 3, .null, false),
  (22, .iload_n 1, 15, 1, 0, .null, false),
  (23, .iaload, 16, 0, 0, .null, false),
  (24, .ior, 17, 0, 0, .null, false),
  (25, .istore_n 2, 18, 2, 0, .null, false),
  (26, .aload_n 0, 19, 0, 0, .null, true),
  (27, .getfield 9, 20, 0, 0, .null, false),
  (30, .iload_n 1, 21, 1, 0, .null, false),
  (31, .iaload, 22, 0, 0, .null, false),
  (32, .iconst 4, 23, 0, 0, .int 4, false),
  (33, .if_icmp .ne 12, 24, 31, 0, .null, false),
  (36, .iload_n 2, 25, 2, 0, .null, false),
  (37, .aload_n 0, 26, 0, 0, .null, false),
  (38, .getfield 24, 27, 0, 4, .null, false),
  (41, .iload_n 1, 28, 1, 0, .null, false),
  (42, .iaload, 29, 0, 0, .null, false),
  (43, .ior, 30, 0, 0, .null, false),
  (44, .istore_n 2, 31, 2, 0, .null, false),
  (45, .iload_n 2, 32, 2, 0, .null, true)]
def q_X0_mattersTo_1 : List mm_N := [(46, .ireturn, 0, 0, 0, .null, false)]
def q_X0_mattersTo : List (List mm_N) := [q_X0_mattersTo_0, q_X0_mattersTo_1]
def q_X1_init_0 : List mm_N := [(0, .aload_n 0, 1, 0, 0, .null, false),
  (1, .invokespecial 3, 2, 1000, 1, .null, false),
  (4, .aload_n 0, 3, 0, 0, .null, false),
  (5, .bipush 9, 4, 0, 0, .int 9, false),
  (7, .newarray .int, 5, 0, 0, .null, false),
  (9, .putfield 9, 6, 1, 0, .null, false),
  (12, .aload_n 0, 7, 0, 0, .null, false),
  (13, .bipush 9, 8, 0, 0, .int 9, false),
  (15, .newarray .int, 9, 0, 0, .null, false),
  (17, .putfield 15, 10, 1, 1, .null, false),
  (20, .aload_n 0, 11, 0, 0, .null, false),
  (21, .bipush 9, 12, 0, 0, .int 9, false),
  (23, .newarray .int, 13, 0, 0, .null, false),
  (25, .putfield 18, 14, 1, 2, .null, false),
  (28, .aload_n 0, 15, 0, 0, .null, false),
  (29, .bipush 9, 16, 0, 0, .int 9, false),
  (31, .newarray .int, 17, 0, 0, .null, false),
  (33, .putfield 21, 18, 1, 3, .null, false),
  (36, .aload_n 0, 19, 0, 0, .null, false),
  (37, .bipush 9, 20, 0, 0, .int 9, false),
  (39, .newarray .int, 21, 0, 0, .null, false),
  (41, .putfield 24, 22, 1, 4, .null, false),
  (44, .aload_n 0, 23, 0, 0, .null, false),
  (45, .bipush 9, 24, 0, 0, .int 9, false),
  (47, .newarray .int, 25, 0, 0, .null, false),
  (49, .putfield 27, 26, 1, 5, .null, false),
  (52, .aload_n 0, 27, 0, 0, .null, false),
  (53, .iconst 0, 28, 0, 0, .int 0, false),
  (54, .putfield 30, 29, 1, 6, .null, false),
  (57, .return_, 0, 0, 0, .null, false)]
def q_X1_init : List (List mm_N) := [q_X1_init_0]
def q_X1_has_0 : List mm_N := [(0, .iload_n 1, 1, 1, 0, .null, false),
  (1, .aload_n 0, 2, 0, 0, .null, false),
  (2, .getfield 30, 3, 1, 6, .null, false),
  (5, .invokestatic 34, 4, 100, 2, .null, false),
  (8, .ireturn, 0, 0, 0, .null, false)]
def q_X1_has : List (List mm_N) := [q_X1_has_0]
def q_X1_everyRuling_0 : List mm_N := [(0, .iconst 1, 1, 0, 0, .int 1, false),
  (1, .aload_n 0, 2, 0, 0, .null, false),
  (2, .getfield 30, 3, 1, 6, .null, false),
  (5, .ishl, 4, 0, 0, .null, false),
  (6, .iconst 1, 5, 0, 0, .int 1, false),
  (7, .isub, 6, 0, 0, .null, false),
  (8, .ireturn, 0, 0, 0, .null, false)]
def q_X1_everyRuling : List (List mm_N) := [q_X1_everyRuling_0]
def q_X1_canBeCited_0 : List mm_N := [(0, .aload_n 0, 1, 0, 0, .null, false),
  (1, .iload_n 1, 2, 1, 0, .null, false),
  (2, .invokevirtual 38, 3, 8, 2, .null, false),
  (5, .ifCond .eq 17, 4, 12, 0, .null, false),
  (8, .aload_n 0, 5, 0, 0, .null, false),
  (9, .getfield 15, 6, 1, 1, .null, false),
  (12, .iload_n 1, 7, 1, 0, .null, false),
  (13, .iaload, 8, 0, 0, .null, false),
  (14, .iload_n 2, 9, 2, 0, .null, false),
  (15, .if_icmp .ge 7, 10, 12, 0, .null, false),
  (18, .iconst 1, 11, 0, 0, .int 1, false),
  (19, .goto 4, 0, 13, 0, .null, false),
  (22, .iconst 0, 13, 0, 0, .int 0, true),
  (23, .ireturn, 0, 0, 0, .null, true)]
def q_X1_canBeCited : List (List mm_N) := [q_X1_canBeCited_0]
def q_X1_citable_0 : List mm_N := [(0, .iload_n 1, 1, 1, 0, .null, false),
  (1, .istore_n 3, 2, 3, 0, .null, false),
  (2, .iconst 0, 3, 0, 0, .int 0, false),
  (3, .istore 4, 4, 4, 0, .null, false),
  (5, .iload 4, 5, 4, 0, .null, true),
  (7, .aload_n 0, 6, 0, 0, .null, false),
  (8, .getfield 30, 7, 1, 6, .null, false),
  (11, .if_icmp .ge 29, 8, 20, 0, .null, false),
  (14, .aload_n 0, 9, 0, 0, .null, false),
  (15, .iload 4, 10, 4, 0, .null, false),
  (17, .iload_n 2, 11, 2, 0, .null, false),
  (18, .invokevirtual 42, 12, 10, 3, .null, false),
  (21, .ifCond .eq 13, 13, 18, 0, .null, false),
  (24, .iload_n 3, 14, 3, 0, .null, false),
  (25, .ifCond .ne 6, 15, 17, 0, .null, false),
  (28, .iload 4, 16, 4, 0, .null, false),
  (30, .ireturn, 0, 0, 0, .null, false),
  (31, .iinc 3 (-1), 18, 3, 0, .int (-1), false),
  (34, .iinc 4 1, 19, 4, 0, .int 1, true),
  (37, .goto (-32), 0, 4, 0, .null, false),
  (40, .bipush (-9), 21, 0, 0, .int (-9), false),
  (42, .ireturn, 0, 0, 0, .null, false)]
def q_X1_citable : List (List mm_N) := [q_X1_citable_0]
def q_X1_add_0 : List mm_N := [(0, .aload_n 0, 1, 0, 0, .null, false),
  (1, .getfield 30, 2, 1, 6, .null, false),
  (4, .bipush 9, 3, 0, 0, .int 9, false),
  (6, .if_icmp .ge 76, 4, 46, 0, .null, false),
  (9, .aload_n 0, 5, 0, 0, .null, false),
  (10, .getfield 9, 6, 1, 0, .null, false),
  (13, .aload_n 0, 7, 0, 0, .null, false),
  (14, .getfield 30, 8, 1, 6, .null, false),
  (17, .iload_n 1, 9, 1, 0, .null, false),
  (18, .iastore, 10, 0, 0, .null, false),
  (19, .aload_n 0, 11, 0, 0, .null, false),
  (20, .getfield 15, 12, 1, 1, .null, false),
  (23, .aload_n 0, 13, 0, 0, .null, false),
  (24, .getfield 30, 14, 1, 6, .null, false),
  (27, .iload_n 2, 15, 2, 0, .null, false),
  (28, .iastore, 16, 0, 0, .null, false),
  (29, .aload_n 0, 17, 0, 0, .null, false),
  (30, .getfield 18, 18, 1, 2, .null, false),
  (33, .aload_n 0, 19, 0, 0, .null, false),
  (34, .getfield 30, 20, 1, 6, .null, false),
  (37, .iload_n 3, 21, 3, 0, .null, false),
  (38, .iastore, 22, 0, 0, .null, false),
  (39, .aload_n 0, 23, 0, 0, .null, false),
  (40, .getfield 21, 24, 1, 3, .null, false),
  (43, .aload_n 0, 25, 0, 0, .null, false),
  (44, .getfield 30, 26, 1, 6, .null, false),
  (47, .iload 4, 27, 4, 0, .null, false),
  (49, .iastore, 28, 0, 0, .null, false),
  (50, .aload_n 0, 29, 0, 0, .null, false),
  (51, .getfield 24, 30, 1, 4, .null, false),
  (54, .aload_n 0, 31, 0, 0, .null, false),
  (55, .getfield 30, 32, 1, 6, .null, false)]
def q_X1_add_1 : List mm_N := [(58, .iload 5, 33, 5, 0, .null, false),
  (60, .iastore, 34, 0, 0, .null, false),
  (61, .aload_n 0, 35, 0, 0, .null, false),
  (62, .getfield 27, 36, 1, 5, .null, false),
  (65, .aload_n 0, 37, 0, 0, .null, false),
  (66, .getfield 30, 38, 1, 6, .null, false),
  (69, .iload 6, 39, 6, 0, .null, false),
  (71, .iastore, 40, 0, 0, .null, false),
  (72, .aload_n 0, 41, 0, 0, .null, false),
  (73, .dup, 42, 0, 0, .null, false),
  (74, .getfield 30, 43, 1, 6, .null, false),
  (77, .iconst 1, 44, 0, 0, .int 1, false),
  (78, .iadd, 45, 0, 0, .null, false),
  (79, .putfield 30, 46, 1, 6, .null, false),
  (82, .return_, 0, 0, 0, .null, true)]
def q_X1_add : List (List mm_N) := [q_X1_add_0, q_X1_add_1]
def q_X1_cutTo_0 : List mm_N := [(0, .iload_n 1, 1, 1, 0, .null, false),
  (1, .aload_n 0, 2, 0, 0, .null, false),
  (2, .getfield 30, 3, 1, 6, .null, false),
  (5, .invokestatic 34, 4, 100, 2, .null, false),
  (8, .ifCond .eq 8, 5, 8, 0, .null, false),
  (11, .aload_n 0, 6, 0, 0, .null, false),
  (12, .iload_n 1, 7, 1, 0, .null, false),
  (13, .putfield 30, 8, 1, 6, .null, false),
  (16, .return_, 0, 0, 0, .null, true)]
def q_X1_cutTo : List (List mm_N) := [q_X1_cutTo_0]
def q_X1_become_0 : List mm_N := [(0, .aload_n 0, 1, 0, 0, .null, false),
  (1, .iconst 0, 2, 0, 0, .int 0, false),
  (2, .invokevirtual 45, 3, 13, 2, .null, false),
  (5, .iconst 0, 4, 0, 0, .int 0, false),
  (6, .istore_n 2, 5, 2, 0, .null, false),
  (7, .iload_n 2, 6, 2, 0, .null, true),
  (8, .aload_n 1, 7, 1, 0, .null, false),
  (9, .getfield 30, 8, 1, 6, .null, false),
  (12, .if_icmp .ge 49, 9, 37, 0, .null, false),
  (15, .aload_n 0, 10, 0, 0, .null, false),
  (16, .aload_n 1, 11, 1, 0, .null, false),
  (17, .getfield 9, 12, 1, 0, .null, false),
  (20, .iload_n 2, 13, 2, 0, .null, false),
  (21, .iaload, 14, 0, 0, .null, false),
  (22, .aload_n 1, 15, 1, 0, .null, false),
  (23, .getfield 15, 16, 1, 1, .null, false),
  (26, .iload_n 2, 17, 2, 0, .null, false),
  (27, .iaload, 18, 0, 0, .null, false),
  (28, .aload_n 1, 19, 1, 0, .null, false),
  (29, .getfield 18, 20, 1, 2, .null, false),
  (32, .iload_n 2, 21, 2, 0, .null, false),
  (33, .iaload, 22, 0, 0, .null, false),
  (34, .aload_n 1, 23, 1, 0, .null, false),
  (35, .getfield 21, 24, 1, 3, .null, false),
  (38, .iload_n 2, 25, 2, 0, .null, false),
  (39, .iaload, 26, 0, 0, .null, false),
  (40, .aload_n 1, 27, 1, 0, .null, false),
  (41, .getfield 24, 28, 1, 4, .null, false),
  (44, .iload_n 2, 29, 2, 0, .null, false),
  (45, .iaload, 30, 0, 0, .null, false),
  (46, .aload_n 1, 31, 1, 0, .null, false),
  (47, .getfield 27, 32, 1, 5, .null, false)]
def q_X1_become_1 : List mm_N := [(50, .iload_n 2, 33, 2, 0, .null, false),
  (51, .iaload, 34, 0, 0, .null, false),
  (52, .invokevirtual 49, 35, 12, 7, .null, false),
  (55, .iinc 2 1, 36, 2, 0, .int 1, false),
  (58, .goto (-51), 0, 5, 0, .null, false),
  (61, .return_, 0, 0, 0, .null, false)]
def q_X1_become : List (List mm_N) := [q_X1_become_0, q_X1_become_1]
def q_X1_detail_0 : List mm_N := [(0, .iload_n 2, 1, 2, 0, .null, false),
  (1, .tableswitch 81 0 5 #[39, 46, 53, 60, 67, 74], 0, 0, 32, .null, false),
  (40, .aload_n 0, 3, 0, 0, .null, false),
  (41, .getfield 9, 4, 1, 0, .null, false),
  (44, .iload_n 1, 5, 1, 0, .null, false),
  (45, .iaload, 6, 0, 0, .null, false),
  (46, .ireturn, 0, 0, 0, .null, false),
  (47, .aload_n 0, 8, 0, 0, .null, false),
  (48, .getfield 15, 9, 1, 1, .null, false),
  (51, .iload_n 1, 10, 1, 0, .null, false),
  (52, .iaload, 11, 0, 0, .null, false),
  (53, .ireturn, 0, 0, 0, .null, false),
  (54, .aload_n 0, 13, 0, 0, .null, false),
  (55, .getfield 18, 14, 1, 2, .null, false),
  (58, .iload_n 1, 15, 1, 0, .null, false),
  (59, .iaload, 16, 0, 0, .null, false),
  (60, .ireturn, 0, 0, 0, .null, false),
  (61, .aload_n 0, 18, 0, 0, .null, false),
  (62, .getfield 21, 19, 1, 3, .null, false),
  (65, .iload_n 1, 20, 1, 0, .null, false),
  (66, .iaload, 21, 0, 0, .null, false),
  (67, .ireturn, 0, 0, 0, .null, false),
  (68, .aload_n 0, 23, 0, 0, .null, false),
  (69, .getfield 24, 24, 1, 4, .null, false),
  (72, .iload_n 1, 25, 1, 0, .null, false),
  (73, .iaload, 26, 0, 0, .null, false),
  (74, .ireturn, 0, 0, 0, .null, false),
  (75, .aload_n 0, 28, 0, 0, .null, false),
  (76, .getfield 27, 29, 1, 5, .null, false),
  (79, .iload_n 1, 30, 1, 0, .null, false),
  (80, .iaload, 31, 0, 0, .null, false),
  (81, .ireturn, 0, 0, 0, .null, false)]
def q_X1_detail_1 : List mm_N := [(82, .aload_n 0, 33, 0, 0, .null, false),
  (83, .iload_n 1, 34, 1, 0, .null, false),
  (84, .iconst 1, 35, 0, 0, .int 1, false),
  (85, .invokevirtual 53, 36, 16, 3, .null, false),
  (88, .aload_n 0, 37, 0, 0, .null, false),
  (89, .iload_n 1, 38, 1, 0, .null, false),
  (90, .iconst (-1), 39, 0, 0, .int (-1), false),
  (91, .invokevirtual 53, 40, 16, 3, .null, false),
  (94, .iadd, 41, 0, 0, .null, false),
  (95, .ireturn, 0, 0, 0, .null, false)]
def q_X1_detail : List (List mm_N) := [q_X1_detail_0, q_X1_detail_1]
def q_X1_citations_0 : List mm_N := [(0, .iconst 0, 1, 0, 0, .int 0, false),
  (1, .istore_n 3, 2, 3, 0, .null, false),
  (2, .iconst 0, 3, 0, 0, .int 0, false),
  (3, .istore 4, 4, 4, 0, .null, false),
  (5, .iload 4, 5, 4, 0, .null, true),
  (7, .aload_n 0, 6, 0, 0, .null, false),
  (8, .getfield 30, 7, 1, 6, .null, false),
  (11, .if_icmp .ge 39, 8, 28, 0, .null, false),
  (14, .iload_n 3, 9, 3, 0, .null, false),
  (15, .aload_n 0, 10, 0, 0, .null, false),
  (16, .getfield 21, 11, 1, 3, .null, false),
  (19, .iload 4, 12, 4, 0, .null, false),
  (21, .iaload, 13, 0, 0, .null, false),
  (22, .iload_n 1, 14, 1, 0, .null, false),
  (23, .if_icmp .ne 18, 15, 23, 0, .null, false),
  (26, .aload_n 0, 16, 0, 0, .null, false),
  (27, .getfield 24, 17, 1, 4, .null, false),
  (30, .iload 4, 18, 4, 0, .null, false),
  (32, .iaload, 19, 0, 0, .null, false),
  (33, .iload_n 2, 20, 2, 0, .null, false),
  (34, .if_icmp .ne 7, 21, 23, 0, .null, false),
  (37, .iconst 1, 22, 0, 0, .int 1, false),
  (38, .goto 4, 0, 24, 0, .null, false),
  (41, .iconst 0, 24, 0, 0, .int 0, true),
  (42, .iadd, 25, 0, 0, .null, true),
  (43, .istore_n 3, 26, 3, 0, .null, false),
  (44, .iinc 4 1, 27, 4, 0, .int 1, false),
  (47, .goto (-42), 0, 4, 0, .null, false),
  (50, .iload_n 3, 29, 3, 0, .null, false),
  (51, .ireturn, 0, 0, 0, .null, false)]
def q_X1_citations : List (List mm_N) := [q_X1_citations_0]
def q_X1_dependsOn_0 : List mm_N := [(0, .iconst 0, 1, 0, 0, .int 0, false),
  (1, .istore_n 2, 2, 2, 0, .null, false),
  (2, .aload_n 0, 3, 0, 0, .null, false),
  (3, .iload_n 1, 4, 1, 0, .null, false),
  (4, .invokevirtual 38, 5, 8, 2, .null, false),
  (7, .ifCond .eq 12, 6, 11, 0, .null, false),
  (10, .aload_n 0, 7, 0, 0, .null, false),
  (11, .getfield 21, 8, 1, 3, .null, false),
  (14, .iload_n 1, 9, 1, 0, .null, false),
  (15, .iaload, 10, 0, 0, .null, false),
  (16, .goto 5, 0, 12, 0, .null, false),
  (19, .bipush (-9), 12, 0, 0, .int (-9), false),
  (21, .istore_n 3, 13, 3, 0, .null, true),
  (22, .aload_n 0, 14, 0, 0, .null, true),
  (23, .iload_n 3, 15, 3, 0, .null, false),
  (24, .invokevirtual 38, 16, 8, 2, .null, false),
  (27, .ifCond .eq 22, 17, 27, 0, .null, false),
  (30, .iload_n 2, 18, 2, 0, .null, false),
  (31, .bipush 9, 19, 0, 0, .int 9, false),
  (33, .if_icmp .ge 16, 20, 27, 0, .null, false),
  (36, .iinc 2 1, 21, 2, 0, .int 1, false),
  (39, .aload_n 0, 22, 0, 0, .null, false),
  (40, .getfield 21, 23, 1, 3, .null, false),
  (43, .iload_n 3, 24, 3, 0, .null, false),
  (44, .iaload, 25, 0, 0, .null, false),
  (45, .istore_n 3, 26, 3, 0, .null, false),
  (46, .goto (-24), 0, 13, 0, .null, false),
  (49, .iload_n 2, 28, 2, 0, .null, true),
  (50, .ireturn, 0, 0, 0, .null, false)]
def q_X1_dependsOn : List (List mm_N) := [q_X1_dependsOn_0]
def q_X1_ofDay_0 : List mm_N := [(0, .iconst 0, 1, 0, 0, .int 0, false),
  (1, .istore_n 2, 2, 2, 0, .null, false),
  (2, .iconst 0, 3, 0, 0, .int 0, false),
  (3, .istore_n 3, 4, 3, 0, .null, false),
  (4, .iload_n 3, 5, 3, 0, .null, true),
  (5, .aload_n 0, 6, 0, 0, .null, false),
  (6, .getfield 30, 7, 1, 6, .null, false),
  (9, .if_icmp .ge 29, 8, 24, 0, .null, false),
  (12, .iload_n 2, 9, 2, 0, .null, false),
  (13, .aload_n 0, 10, 0, 0, .null, false),
  (14, .getfield 15, 11, 1, 1, .null, false),
  (17, .iload_n 3, 12, 3, 0, .null, false),
  (18, .iaload, 13, 0, 0, .null, false),
  (19, .iload_n 1, 14, 1, 0, .null, false),
  (20, .if_icmp .ne 9, 15, 19, 0, .null, false),
  (23, .iconst 1, 16, 0, 0, .int 1, false),
  (24, .iload_n 3, 17, 3, 0, .null, false),
  (25, .ishl, 18, 0, 0, .null, false),
  (26, .goto 4, 0, 20, 0, .null, false),
  (29, .iconst 0, 20, 0, 0, .int 0, false),
  (30, .ior, 21, 0, 0, .null, true),
  (31, .istore_n 2, 22, 2, 0, .null, false),
  (32, .iinc 3 1, 23, 3, 0, .int 1, false),
  (35, .goto (-31), 0, 4, 0, .null, false),
  (38, .iload_n 2, 25, 2, 0, .null, false),
  (39, .ireturn, 0, 0, 0, .null, false)]
def q_X1_ofDay : List (List mm_N) := [q_X1_ofDay_0]
def q_X1_othersOfItsDay_0 : List mm_N := [(0, .aload_n 0, 1, 0, 0, .null, false),
  (1, .aload_n 0, 2, 0, 0, .null, false),
  (2, .getfield 15, 3, 1, 1, .null, false),
  (5, .iload_n 1, 4, 1, 0, .null, false),
  (6, .iaload, 5, 0, 0, .null, false),
  (7, .invokevirtual 57, 6, 18, 2, .null, false),
  (10, .iconst 1, 7, 0, 0, .int 1, false),
  (11, .iload_n 1, 8, 1, 0, .null, false),
  (12, .ishl, 9, 0, 0, .null, false),
  (13, .iconst (-1), 10, 0, 0, .int (-1), false),
  (14, .ixor, 11, 0, 0, .null, false),
  (15, .iand, 12, 0, 0, .null, false),
  (16, .ireturn, 0, 0, 0, .null, false)]
def q_X1_othersOfItsDay : List (List mm_N) := [q_X1_othersOfItsDay_0]
def q_X1_laterThan_0 : List mm_N := [(0, .iconst 0, 1, 0, 0, .int 0, false),
  (1, .istore_n 2, 2, 2, 0, .null, false),
  (2, .iconst 0, 3, 0, 0, .int 0, false),
  (3, .istore_n 3, 4, 3, 0, .null, false),
  (4, .iload_n 3, 5, 3, 0, .null, true),
  (5, .aload_n 0, 6, 0, 0, .null, false),
  (6, .getfield 30, 7, 1, 6, .null, false),
  (9, .if_icmp .ge 29, 8, 24, 0, .null, false),
  (12, .iload_n 2, 9, 2, 0, .null, false),
  (13, .aload_n 0, 10, 0, 0, .null, false),
  (14, .getfield 15, 11, 1, 1, .null, false),
  (17, .iload_n 3, 12, 3, 0, .null, false),
  (18, .iaload, 13, 0, 0, .null, false),
  (19, .iload_n 1, 14, 1, 0, .null, false),
  (20, .if_icmp .le 9, 15, 19, 0, .null, false),
  (23, .iconst 1, 16, 0, 0, .int 1, false),
  (24, .iload_n 3, 17, 3, 0, .null, false),
  (25, .ishl, 18, 0, 0, .null, false),
  (26, .goto 4, 0, 20, 0, .null, false),
  (29, .iconst 0, 20, 0, 0, .int 0, false),
  (30, .ior, 21, 0, 0, .null, true),
  (31, .istore_n 2, 22, 2, 0, .null, false),
  (32, .iinc 3 1, 23, 3, 0, .int 1, false),
  (35, .goto (-31), 0, 4, 0, .null, false),
  (38, .iload_n 2, 25, 2, 0, .null, false),
  (39, .ireturn, 0, 0, 0, .null, false)]
def q_X1_laterThan : List (List mm_N) := [q_X1_laterThan_0]
def q_X1_countOf_0 : List mm_N := [(0, .iconst 0, 1, 0, 0, .int 0, false),
  (1, .istore_n 2, 2, 2, 0, .null, false),
  (2, .iconst 0, 3, 0, 0, .int 0, false),
  (3, .istore_n 3, 4, 3, 0, .null, false),
  (4, .iload_n 3, 5, 3, 0, .null, true),
  (5, .aload_n 0, 6, 0, 0, .null, false),
  (6, .getfield 30, 7, 1, 6, .null, false),
  (9, .if_icmp .ge 97, 8, 60, 0, .null, false),
  (12, .iload_n 1, 9, 1, 0, .null, false),
  (13, .ifCond .eq 67, 10, 46, 0, .null, false),
  (16, .iload_n 1, 11, 1, 0, .null, false),
  (17, .iconst 1, 12, 0, 0, .int 1, false),
  (18, .if_icmp .ne 12, 13, 18, 0, .null, false),
  (21, .aload_n 0, 14, 0, 0, .null, false),
  (22, .getfield 24, 15, 1, 4, .null, false),
  (25, .iload_n 3, 16, 3, 0, .null, false),
  (26, .iaload, 17, 0, 0, .null, false),
  (27, .ifCond .ne 53, 18, 46, 0, .null, false),
  (30, .iload_n 1, 19, 1, 0, .null, true),
  (31, .iconst 2, 20, 0, 0, .int 2, false),
  (32, .if_icmp .ne 12, 21, 26, 0, .null, false),
  (35, .aload_n 0, 22, 0, 0, .null, false),
  (36, .getfield 24, 23, 1, 4, .null, false),
  (39, .iload_n 3, 24, 3, 0, .null, false),
  (40, .iaload, 25, 0, 0, .null, false),
  (41, .ifCond .lt 39, 26, 46, 0, .null, false),
  (44, .iload_n 1, 27, 1, 0, .null, true),
  (45, .iconst 3, 28, 0, 0, .int 3, false),
  (46, .if_icmp .ne 16, 29, 36, 0, .null, false),
  (49, .aload_n 0, 30, 0, 0, .null, false),
  (50, .getfield 9, 31, 1, 0, .null, false),
  (53, .iload_n 3, 32, 3, 0, .null, false)]
def q_X1_countOf_1 : List mm_N := [(54, .iaload, 33, 0, 0, .null, false),
  (55, .iconst 1, 34, 0, 0, .int 1, false),
  (56, .invokestatic 61, 35, 102, 2, .null, false),
  (59, .ifCond .ne 21, 36, 46, 0, .null, false),
  (62, .iload_n 1, 37, 1, 0, .null, true),
  (63, .iconst 4, 38, 0, 0, .int 4, false),
  (64, .if_icmp .ne 20, 39, 48, 0, .null, false),
  (67, .aload_n 0, 40, 0, 0, .null, false),
  (68, .getfield 9, 41, 1, 0, .null, false),
  (71, .iload_n 3, 42, 3, 0, .null, false),
  (72, .iaload, 43, 0, 0, .null, false),
  (73, .iconst 2, 44, 0, 0, .int 2, false),
  (74, .invokestatic 61, 45, 102, 2, .null, false),
  (77, .ifCond .eq 7, 46, 48, 0, .null, false),
  (80, .iconst 1, 47, 0, 0, .int 1, true),
  (81, .goto 4, 0, 49, 0, .null, false),
  (84, .iconst 0, 49, 0, 0, .int 0, true),
  (85, .istore 4, 50, 4, 0, .null, true),
  (87, .iload_n 2, 51, 2, 0, .null, false),
  (88, .iload 4, 52, 4, 0, .null, false),
  (90, .ifCond .eq 7, 53, 55, 0, .null, false),
  (93, .iconst 1, 54, 0, 0, .int 1, false),
  (94, .goto 4, 0, 56, 0, .null, false),
  (97, .iconst 0, 56, 0, 0, .int 0, false),
  (98, .iadd, 57, 0, 0, .null, true),
  (99, .istore_n 2, 58, 2, 0, .null, false),
  (100, .iinc 3 1, 59, 3, 0, .int 1, false),
  (103, .goto (-99), 0, 4, 0, .null, false),
  (106, .iload_n 2, 61, 2, 0, .null, false),
  (107, .ireturn, 0, 0, 0, .null, false)]
def q_X1_countOf : List (List mm_N) := [q_X1_countOf_0, q_X1_countOf_1]
def q_X1_likeness_0 : List mm_N := [(0, .aload_n 0, 1, 0, 0, .null, false),
  (1, .getfield 27, 2, 1, 5, .null, false),
  (4, .iload_n 1, 3, 1, 0, .null, false),
  (5, .iaload, 4, 0, 0, .null, false),
  (6, .iload_n 2, 5, 2, 0, .null, false),
  (7, .iand, 6, 0, 0, .null, false),
  (8, .iload_n 3, 7, 3, 0, .null, false),
  (9, .iand, 8, 0, 0, .null, false),
  (10, .istore 4, 9, 4, 0, .null, false),
  (12, .aload_n 0, 10, 0, 0, .null, false),
  (13, .getfield 27, 11, 1, 5, .null, false),
  (16, .iload_n 1, 12, 1, 0, .null, false),
  (17, .iaload, 13, 0, 0, .null, false),
  (18, .iload_n 2, 14, 2, 0, .null, false),
  (19, .ixor, 15, 0, 0, .null, false),
  (20, .iload_n 3, 16, 3, 0, .null, false),
  (21, .iand, 17, 0, 0, .null, false),
  (22, .istore 5, 18, 5, 0, .null, false),
  (24, .iconst 2, 19, 0, 0, .int 2, false),
  (25, .iload 4, 20, 4, 0, .null, false),
  (27, .invokestatic 64, 21, 208, 1, .null, false),
  (30, .imul, 22, 0, 0, .null, false),
  (31, .iload 5, 23, 5, 0, .null, false),
  (33, .invokestatic 64, 24, 208, 1, .null, false),
  (36, .isub, 25, 0, 0, .null, false),
  (37, .ireturn, 0, 0, 0, .null, false)]
def q_X1_likeness : List (List mm_N) := [q_X1_likeness_0]
def q_X1_decide_0 : List mm_N := [(0, .bipush (-9), 1, 0, 0, .int (-9), false),
  (2, .istore 4, 2, 4, 0, .null, false),
  (4, .iconst 0, 3, 0, 0, .int 0, false),
  (5, .istore 5, 4, 5, 0, .null, false),
  (7, .iconst 0, 5, 0, 0, .int 0, false),
  (8, .istore 6, 6, 6, 0, .null, false),
  (10, .iload 6, 7, 6, 0, .null, true),
  (12, .aload_n 0, 8, 0, 0, .null, false),
  (13, .getfield 30, 9, 1, 6, .null, false),
  (16, .if_icmp .ge 84, 10, 49, 0, .null, false),
  (19, .iload_n 2, 11, 2, 0, .null, false),
  (20, .iload 6, 12, 6, 0, .null, false),
  (22, .invokestatic 69, 13, 101, 2, .null, false),
  (25, .ifCond .eq 69, 14, 47, 0, .null, false),
  (28, .aload_n 0, 15, 0, 0, .null, false),
  (29, .iload 6, 16, 6, 0, .null, false),
  (31, .iload_n 1, 17, 1, 0, .null, false),
  (32, .iload_n 3, 18, 3, 0, .null, false),
  (33, .invokevirtual 72, 19, 22, 4, .null, false),
  (36, .istore 7, 20, 7, 0, .null, false),
  (38, .iload 4, 21, 4, 0, .null, false),
  (40, .ifCond .lt 34, 22, 37, 0, .null, false),
  (43, .iload 7, 23, 7, 0, .null, false),
  (45, .iload 5, 24, 5, 0, .null, false),
  (47, .if_icmp .gt 27, 25, 37, 0, .null, false),
  (50, .iload 7, 26, 7, 0, .null, false),
  (52, .iload 5, 27, 5, 0, .null, false),
  (54, .if_icmp .ne 24, 28, 39, 0, .null, false),
  (57, .aload_n 0, 29, 0, 0, .null, false),
  (58, .getfield 15, 30, 1, 1, .null, false),
  (61, .iload 6, 31, 6, 0, .null, false),
  (63, .iaload, 32, 0, 0, .null, false)]
def q_X1_decide_1 : List mm_N := [(64, .aload_n 0, 33, 0, 0, .null, false),
  (65, .getfield 15, 34, 1, 1, .null, false),
  (68, .iload 4, 35, 4, 0, .null, false),
  (70, .iaload, 36, 0, 0, .null, false),
  (71, .if_icmp .lt 7, 37, 39, 0, .null, false),
  (74, .iconst 1, 38, 0, 0, .int 1, true),
  (75, .goto 4, 0, 40, 0, .null, false),
  (78, .iconst 0, 40, 0, 0, .int 0, true),
  (79, .istore 8, 41, 8, 0, .null, true),
  (81, .iload 8, 42, 8, 0, .null, false),
  (83, .ifCond .eq 11, 43, 47, 0, .null, false),
  (86, .iload 6, 44, 6, 0, .null, false),
  (88, .istore 4, 45, 4, 0, .null, false),
  (90, .iload 7, 46, 7, 0, .null, false),
  (92, .istore 5, 47, 5, 0, .null, false),
  (94, .iinc 6 1, 48, 6, 0, .int 1, true),
  (97, .goto (-87), 0, 6, 0, .null, false),
  (100, .aload_n 0, 50, 0, 0, .null, false),
  (101, .iload 4, 51, 4, 0, .null, false),
  (103, .invokevirtual 38, 52, 8, 2, .null, false),
  (106, .ifCond .eq 13, 53, 58, 0, .null, false),
  (109, .aload_n 0, 54, 0, 0, .null, false),
  (110, .getfield 18, 55, 1, 2, .null, false),
  (113, .iload 4, 56, 4, 0, .null, false),
  (115, .iaload, 57, 0, 0, .null, false),
  (116, .goto 4, 0, 59, 0, .null, false),
  (119, .iconst 0, 59, 0, 0, .int 0, false),
  (120, .ireturn, 0, 0, 0, .null, true)]
def q_X1_decide : List (List mm_N) := [q_X1_decide_0, q_X1_decide_1]
def q_X1_verdictsBy_0 : List mm_N := [(0, .iconst 0, 1, 0, 0, .int 0, false),
  (1, .istore_n 2, 2, 2, 0, .null, false),
  (2, .iconst 0, 3, 0, 0, .int 0, false),
  (3, .istore_n 3, 4, 3, 0, .null, false),
  (4, .iload_n 3, 5, 3, 0, .null, true),
  (5, .bipush 32, 6, 0, 0, .int 32, false),
  (7, .if_icmp .ge 22, 7, 19, 0, .null, false),
  (10, .iload_n 2, 8, 2, 0, .null, false),
  (11, .aload_n 0, 9, 0, 0, .null, false),
  (12, .iload_n 3, 10, 3, 0, .null, false),
  (13, .iload_n 1, 11, 1, 0, .null, false),
  (14, .bipush 31, 12, 0, 0, .int 31, false),
  (16, .invokevirtual 76, 13, 23, 4, .null, false),
  (19, .iload_n 3, 14, 3, 0, .null, false),
  (20, .ishl, 15, 0, 0, .null, false),
  (21, .ior, 16, 0, 0, .null, false),
  (22, .istore_n 2, 17, 2, 0, .null, false),
  (23, .iinc 3 1, 18, 3, 0, .int 1, false),
  (26, .goto (-22), 0, 4, 0, .null, false),
  (29, .iload_n 2, 20, 2, 0, .null, false),
  (30, .ireturn, 0, 0, 0, .null, false)]
def q_X1_verdictsBy : List (List mm_N) := [q_X1_verdictsBy_0]
def q_X1_agrees_0 : List mm_N := [(0, .iconst 0, 1, 0, 0, .int 0, false),
  (1, .istore_n 3, 2, 3, 0, .null, false),
  (2, .iload_n 3, 3, 3, 0, .null, true),
  (3, .bipush 32, 4, 0, 0, .int 32, false),
  (5, .if_icmp .ge 27, 5, 20, 0, .null, false),
  (8, .aload_n 0, 6, 0, 0, .null, false),
  (9, .iload_n 3, 7, 3, 0, .null, false),
  (10, .iload_n 1, 8, 1, 0, .null, false),
  (11, .bipush 31, 9, 0, 0, .int 31, false),
  (13, .invokevirtual 76, 10, 23, 4, .null, false),
  (16, .iload_n 2, 11, 2, 0, .null, false),
  (17, .iload_n 3, 12, 3, 0, .null, false),
  (18, .iushr, 13, 0, 0, .null, false),
  (19, .iconst 1, 14, 0, 0, .int 1, false),
  (20, .iand, 15, 0, 0, .null, false),
  (21, .if_icmp .eq 5, 16, 18, 0, .null, false),
  (24, .iconst 0, 17, 0, 0, .int 0, false),
  (25, .ireturn, 0, 0, 0, .null, false),
  (26, .iinc 3 1, 19, 3, 0, .int 1, false),
  (29, .goto (-27), 0, 2, 0, .null, false),
  (32, .iconst 1, 21, 0, 0, .int 1, false),
  (33, .ireturn, 0, 0, 0, .null, false)]
def q_X1_agrees : List (List mm_N) := [q_X1_agrees_0]
def q_X2_init_0 : List mm_N := [(0, .aload_n 0, 1, 0, 0, .null, false),
  (1, .invokespecial 3, 2, 1000, 1, .null, false),
  (4, .aload_n 0, 3, 0, 0, .null, false),
  (5, .new 9, 4, 1, 0, .null, false),
  (8, .dup, 5, 0, 0, .null, false),
  (9, .invokespecial 11, 6, 7, 1, .null, false),
  (12, .putfield 12, 7, 2, 0, .null, false),
  (15, .aload_n 0, 8, 0, 0, .null, false),
  (16, .new 18, 9, 3, 0, .null, false),
  (19, .dup, 10, 0, 0, .null, false),
  (20, .iconst 0, 11, 0, 0, .int 0, false),
  (21, .invokespecial 20, 12, 34, 2, .null, false),
  (24, .putfield 23, 13, 2, 1, .null, false),
  (27, .aload_n 0, 14, 0, 0, .null, false),
  (28, .iconst 0, 15, 0, 0, .int 0, false),
  (29, .putfield 27, 16, 2, 2, .null, false),
  (32, .return_, 0, 0, 0, .null, false)]
def q_X2_init : List (List mm_N) := [q_X2_init_0]
def q_X2_read_0 : List mm_N := [(0, .aload_n 0, 1, 0, 0, .null, false),
  (1, .aload_n 1, 2, 1, 0, .null, false),
  (2, .putfield 23, 3, 2, 1, .null, false),
  (5, .aload_n 0, 4, 0, 0, .null, false),
  (6, .iconst 0, 5, 0, 0, .int 0, false),
  (7, .putfield 27, 6, 2, 2, .null, false),
  (10, .aload_n 0, 7, 0, 0, .null, false),
  (11, .getfield 12, 8, 2, 0, .null, false),
  (14, .iconst 0, 9, 0, 0, .int 0, false),
  (15, .invokevirtual 31, 10, 13, 2, .null, false),
  (18, .iconst 0, 11, 0, 0, .int 0, false),
  (19, .istore_n 2, 12, 2, 0, .null, false),
  (20, .iload_n 2, 13, 2, 0, .null, true),
  (21, .bipush 9, 14, 0, 0, .int 9, false),
  (23, .if_icmp .gt 42, 15, 33, 0, .null, false),
  (26, .aload_n 0, 16, 0, 0, .null, false),
  (27, .invokevirtual 34, 17, 28, 1, .null, false),
  (30, .aload_n 0, 18, 0, 0, .null, false),
  (31, .getfield 27, 19, 2, 2, .null, false),
  (34, .aload_n 0, 20, 0, 0, .null, false),
  (35, .getfield 23, 21, 2, 1, .null, false),
  (38, .getfield 37, 22, 3, 1, .null, false),
  (41, .if_icmp .lt 6, 23, 25, 0, .null, false),
  (44, .bipush (-9), 24, 0, 0, .int (-9), false),
  (46, .ireturn, 0, 0, 0, .null, false),
  (47, .aload_n 0, 26, 0, 0, .null, false),
  (48, .invokevirtual 40, 27, 29, 1, .null, false),
  (51, .ifCond .ne 8, 28, 31, 0, .null, false),
  (54, .aload_n 0, 29, 0, 0, .null, false),
  (55, .getfield 27, 30, 2, 2, .null, false),
  (58, .ireturn, 0, 0, 0, .null, false),
  (59, .iinc 2 1, 32, 2, 0, .int 1, false)]
def q_X2_read_1 : List mm_N := [(62, .goto (-42), 0, 12, 0, .null, false),
  (65, .aload_n 0, 34, 0, 0, .null, false),
  (66, .getfield 27, 35, 2, 2, .null, false),
  (69, .ireturn, 0, 0, 0, .null, false)]
def q_X2_read : List (List mm_N) := [q_X2_read_0, q_X2_read_1]
def q_X2_skipBlanks_0 : List mm_N := [(0, .aload_n 0, 1, 0, 0, .null, true),
  (1, .getfield 27, 2, 2, 2, .null, false),
  (4, .aload_n 0, 3, 0, 0, .null, false),
  (5, .getfield 23, 4, 2, 1, .null, false),
  (8, .getfield 37, 5, 3, 1, .null, false),
  (11, .if_icmp .ge 32, 6, 20, 0, .null, false),
  (14, .aload_n 0, 7, 0, 0, .null, false),
  (15, .getfield 23, 8, 2, 1, .null, false),
  (18, .aload_n 0, 9, 0, 0, .null, false),
  (19, .getfield 27, 10, 2, 2, .null, false),
  (22, .invokevirtual 44, 11, 38, 2, .null, false),
  (25, .bipush 32, 12, 0, 0, .int 32, false),
  (27, .if_icmp .ne 16, 13, 20, 0, .null, false),
  (30, .aload_n 0, 14, 0, 0, .null, false),
  (31, .dup, 15, 0, 0, .null, false),
  (32, .getfield 27, 16, 2, 2, .null, false),
  (35, .iconst 1, 17, 0, 0, .int 1, false),
  (36, .iadd, 18, 0, 0, .null, false),
  (37, .putfield 27, 19, 2, 2, .null, false),
  (40, .goto (-40), 0, 0, 0, .null, false),
  (43, .return_, 0, 0, 0, .null, true)]
def q_X2_skipBlanks : List (List mm_N) := [q_X2_skipBlanks_0]
def q_X2_readItem_0 : List mm_N := [(0, .aload_n 0, 1, 0, 0, .null, false),
  (1, .invokevirtual 48, 2, 31, 1, .null, false),
  (4, .istore_n 1, 3, 1, 0, .null, false),
  (5, .iload_n 1, 4, 1, 0, .null, false),
  (6, .ifCond .lt 15, 5, 10, 0, .null, false),
  (9, .aload_n 0, 6, 0, 0, .null, false),
  (10, .getfield 12, 7, 2, 0, .null, false),
  (13, .getfield 52, 8, 1, 6, .null, false),
  (16, .bipush 9, 9, 0, 0, .int 9, false),
  (18, .if_icmp .lt 5, 10, 12, 0, .null, false),
  (21, .iconst 0, 11, 0, 0, .int 0, true),
  (22, .ireturn, 0, 0, 0, .null, false),
  (23, .aload_n 0, 13, 0, 0, .null, false),
  (24, .dup, 14, 0, 0, .null, false),
  (25, .getfield 27, 15, 2, 2, .null, false),
  (28, .iconst 1, 16, 0, 0, .int 1, false),
  (29, .iadd, 17, 0, 0, .null, false),
  (30, .putfield 27, 18, 2, 2, .null, false),
  (33, .aload_n 0, 19, 0, 0, .null, false),
  (34, .invokevirtual 53, 20, 32, 1, .null, false),
  (37, .istore_n 2, 21, 2, 0, .null, false),
  (38, .iload_n 2, 22, 2, 0, .null, false),
  (39, .ifCond .ge 5, 23, 25, 0, .null, false),
  (42, .iconst 0, 24, 0, 0, .int 0, false),
  (43, .ireturn, 0, 0, 0, .null, false),
  (44, .aload_n 0, 26, 0, 0, .null, false),
  (45, .dup, 27, 0, 0, .null, false),
  (46, .getfield 27, 28, 2, 2, .null, false),
  (49, .iconst 1, 29, 0, 0, .int 1, false),
  (50, .iadd, 30, 0, 0, .null, false),
  (51, .putfield 27, 31, 2, 2, .null, false),
  (54, .aload_n 0, 32, 0, 0, .null, false)]
def q_X2_readItem_1 : List mm_N := [(55, .invokevirtual 53, 33, 32, 1, .null, false),
  (58, .istore_n 3, 34, 3, 0, .null, false),
  (59, .iload_n 3, 35, 3, 0, .null, false),
  (60, .iconst 2, 36, 0, 0, .int 2, false),
  (61, .invokestatic 56, 37, 100, 2, .null, false),
  (64, .ifCond .ne 5, 38, 40, 0, .null, false),
  (67, .iconst 0, 39, 0, 0, .int 0, false),
  (68, .ireturn, 0, 0, 0, .null, false),
  (69, .aload_n 0, 41, 0, 0, .null, false),
  (70, .dup, 42, 0, 0, .null, false),
  (71, .getfield 27, 43, 2, 2, .null, false),
  (74, .iconst 1, 44, 0, 0, .int 1, false),
  (75, .iadd, 45, 0, 0, .null, false),
  (76, .putfield 27, 46, 2, 2, .null, false),
  (79, .aload_n 0, 47, 0, 0, .null, false),
  (80, .invokevirtual 60, 48, 30, 1, .null, false),
  (83, .bipush 43, 49, 0, 0, .int 43, false),
  (85, .if_icmp .ne 7, 50, 52, 0, .null, false),
  (88, .iconst 1, 51, 0, 0, .int 1, false),
  (89, .goto 17, 0, 59, 0, .null, false),
  (92, .aload_n 0, 53, 0, 0, .null, false),
  (93, .invokevirtual 60, 54, 30, 1, .null, false),
  (96, .bipush 45, 55, 0, 0, .int 45, false),
  (98, .if_icmp .ne 7, 56, 58, 0, .null, false),
  (101, .iconst (-1), 57, 0, 0, .int (-1), false),
  (102, .goto 4, 0, 59, 0, .null, false),
  (105, .iconst 0, 59, 0, 0, .int 0, false),
  (106, .istore 4, 60, 4, 0, .null, true),
  (108, .bipush (-9), 61, 0, 0, .int (-9), false),
  (110, .istore 5, 62, 5, 0, .null, false),
  (112, .iload 4, 63, 4, 0, .null, false),
  (114, .ifCond .eq 44, 64, 87, 0, .null, false)]
def q_X2_readItem_2 : List mm_N := [(117, .aload_n 0, 65, 0, 0, .null, false),
  (118, .dup, 66, 0, 0, .null, false),
  (119, .getfield 27, 67, 2, 2, .null, false),
  (122, .iconst 1, 68, 0, 0, .int 1, false),
  (123, .iadd, 69, 0, 0, .null, false),
  (124, .putfield 27, 70, 2, 2, .null, false),
  (127, .aload_n 0, 71, 0, 0, .null, false),
  (128, .invokevirtual 53, 72, 32, 1, .null, false),
  (131, .istore 5, 73, 5, 0, .null, false),
  (133, .aload_n 0, 74, 0, 0, .null, false),
  (134, .getfield 12, 75, 2, 0, .null, false),
  (137, .iload 5, 76, 5, 0, .null, false),
  (139, .iload_n 2, 77, 2, 0, .null, false),
  (140, .invokevirtual 63, 78, 10, 3, .null, false),
  (143, .ifCond .ne 5, 79, 81, 0, .null, false),
  (146, .iconst 0, 80, 0, 0, .int 0, false),
  (147, .ireturn, 0, 0, 0, .null, false),
  (148, .aload_n 0, 82, 0, 0, .null, false),
  (149, .dup, 83, 0, 0, .null, false),
  (150, .getfield 27, 84, 2, 2, .null, false),
  (153, .iconst 1, 85, 0, 0, .int 1, false),
  (154, .iadd, 86, 0, 0, .null, false),
  (155, .putfield 27, 87, 2, 2, .null, false),
  (158, .aload_n 0, 88, 0, 0, .null, true),
  (159, .invokevirtual 60, 89, 30, 1, .null, false),
  (162, .bipush 46, 90, 0, 0, .int 46, false),
  (164, .if_icmp .eq 5, 91, 93, 0, .null, false),
  (167, .iconst 0, 92, 0, 0, .int 0, false),
  (168, .ireturn, 0, 0, 0, .null, false),
  (169, .aload_n 0, 94, 0, 0, .null, false),
  (170, .dup, 95, 0, 0, .null, false),
  (171, .getfield 27, 96, 2, 2, .null, false)]
def q_X2_readItem_3 : List mm_N := [(174, .iconst 1, 97, 0, 0, .int 1, false),
  (175, .iadd, 98, 0, 0, .null, false),
  (176, .putfield 27, 99, 2, 2, .null, false),
  (179, .aload_n 0, 100, 0, 0, .null, false),
  (180, .getfield 12, 101, 2, 0, .null, false),
  (183, .iload_n 1, 102, 1, 0, .null, false),
  (184, .iload_n 2, 103, 2, 0, .null, false),
  (185, .iload_n 3, 104, 3, 0, .null, false),
  (186, .iload 5, 105, 5, 0, .null, false),
  (188, .iload 4, 106, 4, 0, .null, false),
  (190, .aload_n 0, 107, 0, 0, .null, false),
  (191, .invokevirtual 66, 108, 33, 1, .null, false),
  (194, .invokevirtual 69, 109, 12, 7, .null, false),
  (197, .iconst 1, 110, 0, 0, .int 1, false),
  (198, .ireturn, 0, 0, 0, .null, false)]
def q_X2_readItem : List (List mm_N) := [q_X2_readItem_0, q_X2_readItem_1, q_X2_readItem_2, q_X2_readItem_3]
def q_X2_sign_0 : List mm_N := [(0, .aload_n 0, 1, 0, 0, .null, false),
  (1, .getfield 23, 2, 2, 1, .null, false),
  (4, .aload_n 0, 3, 0, 0, .null, false),
  (5, .getfield 27, 4, 2, 2, .null, false),
  (8, .invokevirtual 44, 5, 38, 2, .null, false),
  (11, .ireturn, 0, 0, 0, .null, false)]
def q_X2_sign : List (List mm_N) := [q_X2_sign_0]
def q_X2_letter_0 : List mm_N := [(0, .iconst 0, 1, 0, 0, .int 0, false),
  (1, .istore_n 1, 2, 1, 0, .null, false),
  (2, .iload_n 1, 3, 1, 0, .null, true),
  (3, .bipush 6, 4, 0, 0, .int 6, false),
  (5, .if_icmp .ge 23, 5, 15, 0, .null, false),
  (8, .aload_n 0, 6, 0, 0, .null, false),
  (9, .invokevirtual 60, 7, 30, 1, .null, false),
  (12, .getstatic 73, 8, 1, 0, .null, false),
  (15, .iload_n 1, 9, 1, 0, .null, false),
  (16, .iaload, 10, 0, 0, .null, false),
  (17, .if_icmp .ne 5, 11, 13, 0, .null, false),
  (20, .iload_n 1, 12, 1, 0, .null, false),
  (21, .ireturn, 0, 0, 0, .null, false),
  (22, .iinc 1 1, 14, 1, 0, .int 1, false),
  (25, .goto (-23), 0, 2, 0, .null, false),
  (28, .iconst (-1), 16, 0, 0, .int (-1), false),
  (29, .ireturn, 0, 0, 0, .null, false)]
def q_X2_letter : List (List mm_N) := [q_X2_letter_0]
def q_X2_figure_0 : List mm_N := [(0, .aload_n 0, 1, 0, 0, .null, false),
  (1, .invokevirtual 60, 2, 30, 1, .null, false),
  (4, .bipush 48, 3, 0, 0, .int 48, false),
  (6, .isub, 4, 0, 0, .null, false),
  (7, .istore_n 1, 5, 1, 0, .null, false),
  (8, .iload_n 1, 6, 1, 0, .null, false),
  (9, .bipush 10, 7, 0, 0, .int 10, false),
  (11, .invokestatic 56, 8, 100, 2, .null, false),
  (14, .ifCond .eq 7, 9, 11, 0, .null, false),
  (17, .iload_n 1, 10, 1, 0, .null, false),
  (18, .goto 4, 0, 12, 0, .null, false),
  (21, .iconst (-1), 12, 0, 0, .int (-1), false),
  (22, .ireturn, 0, 0, 0, .null, true)]
def q_X2_figure : List (List mm_N) := [q_X2_figure_0]
def q_X2_readMarks_0 : List mm_N := [(0, .iconst 0, 1, 0, 0, .int 0, false),
  (1, .istore_n 1, 2, 1, 0, .null, false),
  (2, .iconst 0, 3, 0, 0, .int 0, false),
  (3, .istore_n 2, 4, 2, 0, .null, false),
  (4, .iload_n 2, 5, 2, 0, .null, true),
  (5, .iconst 5, 6, 0, 0, .int 5, false),
  (6, .if_icmp .ge 36, 7, 27, 0, .null, false),
  (9, .aload_n 0, 8, 0, 0, .null, false),
  (10, .invokevirtual 60, 9, 30, 1, .null, false),
  (13, .bipush 48, 10, 0, 0, .int 48, false),
  (15, .iload_n 2, 11, 2, 0, .null, false),
  (16, .iadd, 12, 0, 0, .null, false),
  (17, .if_icmp .ne 19, 13, 25, 0, .null, false),
  (20, .iload_n 1, 14, 1, 0, .null, false),
  (21, .iconst 1, 15, 0, 0, .int 1, false),
  (22, .iload_n 2, 16, 2, 0, .null, false),
  (23, .ishl, 17, 0, 0, .null, false),
  (24, .ior, 18, 0, 0, .null, false),
  (25, .istore_n 1, 19, 1, 0, .null, false),
  (26, .aload_n 0, 20, 0, 0, .null, false),
  (27, .dup, 21, 0, 0, .null, false),
  (28, .getfield 27, 22, 2, 2, .null, false),
  (31, .iconst 1, 23, 0, 0, .int 1, false),
  (32, .iadd, 24, 0, 0, .null, false),
  (33, .putfield 27, 25, 2, 2, .null, false),
  (36, .iinc 2 1, 26, 2, 0, .int 1, true),
  (39, .goto (-35), 0, 4, 0, .null, false),
  (42, .iload_n 1, 28, 1, 0, .null, false),
  (43, .ireturn, 0, 0, 0, .null, false)]
def q_X2_readMarks : List (List mm_N) := [q_X2_readMarks_0]
def q_X3_init_0 : List mm_N := [(0, .aload_n 0, 1, 0, 0, .null, false),
  (1, .invokespecial 1, 2, 1000, 1, .null, false),
  (4, .aload_n 0, 3, 0, 0, .null, false),
  (5, .iconst (-1), 4, 0, 0, .int (-1), false),
  (6, .putfield 7, 5, 3, 1, .null, false),
  (9, .aload_n 0, 6, 0, 0, .null, false),
  (10, .iload_n 1, 7, 1, 0, .null, false),
  (11, .iconst 0, 8, 0, 0, .int 0, false),
  (12, .invokestatic 13, 9, 1002, 2, .null, false),
  (15, .newarray .int, 10, 0, 0, .null, false),
  (17, .putfield 19, 11, 3, 0, .null, false),
  (20, .return_, 0, 0, 0, .null, false)]
def q_X3_init : List (List mm_N) := [q_X3_init_0]
def q_X3_isMissing_0 : List mm_N := [(0, .aload_n 0, 1, 0, 0, .null, false),
  (1, .getfield 7, 2, 3, 1, .null, false),
  (4, .ifCond .ge 7, 3, 5, 0, .null, false),
  (7, .iconst 1, 4, 0, 0, .int 1, false),
  (8, .goto 4, 0, 6, 0, .null, false),
  (11, .iconst 0, 6, 0, 0, .int 0, false),
  (12, .ireturn, 0, 0, 0, .null, true)]
def q_X3_isMissing : List (List mm_N) := [q_X3_isMissing_0]
def q_X3_has_0 : List mm_N := [(0, .iload_n 1, 1, 1, 0, .null, false),
  (1, .aload_n 0, 2, 0, 0, .null, false),
  (2, .getfield 7, 3, 3, 1, .null, false),
  (5, .invokestatic 23, 4, 100, 2, .null, false),
  (8, .ireturn, 0, 0, 0, .null, false)]
def q_X3_has : List (List mm_N) := [q_X3_has_0]
def q_X3_hasRun_0 : List mm_N := [(0, .iload_n 1, 1, 1, 0, .null, false),
  (1, .ifCond .lt 29, 2, 16, 0, .null, false),
  (4, .iload_n 1, 3, 1, 0, .null, false),
  (5, .aload_n 0, 4, 0, 0, .null, false),
  (6, .getfield 7, 5, 3, 1, .null, false),
  (9, .if_icmp .gt 21, 6, 16, 0, .null, false),
  (12, .iload_n 2, 7, 2, 0, .null, false),
  (13, .ifCond .lt 17, 8, 16, 0, .null, false),
  (16, .iload_n 2, 9, 2, 0, .null, false),
  (17, .aload_n 0, 10, 0, 0, .null, false),
  (18, .getfield 7, 11, 3, 1, .null, false),
  (21, .iload_n 1, 12, 1, 0, .null, false),
  (22, .isub, 13, 0, 0, .null, false),
  (23, .if_icmp .gt 7, 14, 16, 0, .null, false),
  (26, .iconst 1, 15, 0, 0, .int 1, false),
  (27, .goto 4, 0, 17, 0, .null, false),
  (30, .iconst 0, 17, 0, 0, .int 0, true),
  (31, .ireturn, 0, 0, 0, .null, true)]
def q_X3_hasRun : List (List mm_N) := [q_X3_hasRun_0]
def q_X3_value_0 : List mm_N := [(0, .aload_n 0, 1, 0, 0, .null, false),
  (1, .iload_n 1, 2, 1, 0, .null, false),
  (2, .invokevirtual 29, 3, 36, 2, .null, false),
  (5, .ifCond .eq 12, 4, 9, 0, .null, false),
  (8, .aload_n 0, 5, 0, 0, .null, false),
  (9, .getfield 19, 6, 3, 0, .null, false),
  (12, .iload_n 1, 7, 1, 0, .null, false),
  (13, .iaload, 8, 0, 0, .null, false),
  (14, .goto 4, 0, 10, 0, .null, false),
  (17, .iconst 0, 10, 0, 0, .int 0, false),
  (18, .ireturn, 0, 0, 0, .null, true)]
def q_X3_value : List (List mm_N) := [q_X3_value_0]
def q_X3_swap_0 : List mm_N := [(0, .aload_n 0, 1, 0, 0, .null, false),
  (1, .iload_n 1, 2, 1, 0, .null, false),
  (2, .invokevirtual 33, 3, 38, 2, .null, false),
  (5, .istore_n 3, 4, 3, 0, .null, false),
  (6, .aload_n 0, 5, 0, 0, .null, false),
  (7, .iload_n 1, 6, 1, 0, .null, false),
  (8, .invokevirtual 29, 7, 36, 2, .null, false),
  (11, .ifCond .eq 10, 8, 13, 0, .null, false),
  (14, .aload_n 0, 9, 0, 0, .null, false),
  (15, .getfield 19, 10, 3, 0, .null, false),
  (18, .iload_n 1, 11, 1, 0, .null, false),
  (19, .iload_n 2, 12, 2, 0, .null, false),
  (20, .iastore, 13, 0, 0, .null, false),
  (21, .iload_n 3, 14, 3, 0, .null, true),
  (22, .ireturn, 0, 0, 0, .null, false)]
def q_X3_swap : List (List mm_N) := [q_X3_swap_0]
def q_X3_renew_0 : List mm_N := [(0, .aload_n 0, 1, 0, 0, .null, false),
  (1, .iload_n 1, 2, 1, 0, .null, false),
  (2, .aload_n 0, 3, 0, 0, .null, false),
  (3, .getfield 19, 4, 3, 0, .null, false),
  (6, .arraylength, 5, 0, 0, .null, false),
  (7, .invokestatic 37, 6, 1003, 2, .null, false),
  (10, .putfield 7, 7, 3, 1, .null, false),
  (13, .iconst 0, 8, 0, 0, .int 0, false),
  (14, .istore_n 3, 9, 3, 0, .null, false),
  (15, .iload_n 3, 10, 3, 0, .null, true),
  (16, .aload_n 0, 11, 0, 0, .null, false),
  (17, .getfield 7, 12, 3, 1, .null, false),
  (20, .if_icmp .ge 16, 13, 20, 0, .null, false),
  (23, .aload_n 0, 14, 0, 0, .null, false),
  (24, .getfield 19, 15, 3, 0, .null, false),
  (27, .iload_n 3, 16, 3, 0, .null, false),
  (28, .iload_n 2, 17, 2, 0, .null, false),
  (29, .iastore, 18, 0, 0, .null, false),
  (30, .iinc 3 1, 19, 3, 0, .int 1, false),
  (33, .goto (-18), 0, 9, 0, .null, false),
  (36, .return_, 0, 0, 0, .null, false)]
def q_X3_renew : List (List mm_N) := [q_X3_renew_0]
def q_X3_remove_0 : List mm_N := [(0, .aload_n 0, 1, 0, 0, .null, false),
  (1, .iconst (-1), 2, 0, 0, .int (-1), false),
  (2, .putfield 7, 3, 3, 1, .null, false),
  (5, .return_, 0, 0, 0, .null, false)]
def q_X3_remove : List (List mm_N) := [q_X3_remove_0]
def q_X3_sum_0 : List mm_N := [(0, .lconst 0, 1, 0, 0, .long 0, false),
  (1, .lstore_n 1, 2, 1, 0, .null, false),
  (2, .iconst 0, 3, 0, 0, .int 0, false),
  (3, .istore_n 3, 4, 3, 0, .null, false),
  (4, .iload_n 3, 5, 3, 0, .null, true),
  (5, .aload_n 0, 6, 0, 0, .null, false),
  (6, .getfield 7, 7, 3, 1, .null, false),
  (9, .if_icmp .ge 19, 8, 18, 0, .null, false),
  (12, .lload_n 1, 9, 1, 0, .null, false),
  (13, .aload_n 0, 10, 0, 0, .null, false),
  (14, .getfield 19, 11, 3, 0, .null, false),
  (17, .iload_n 3, 12, 3, 0, .null, false),
  (18, .iaload, 13, 0, 0, .null, false),
  (19, .i2l, 14, 0, 0, .null, false),
  (20, .ladd, 15, 0, 0, .null, false),
  (21, .lstore_n 1, 16, 1, 0, .null, false),
  (22, .iinc 3 1, 17, 3, 0, .int 1, false),
  (25, .goto (-21), 0, 4, 0, .null, false),
  (28, .lload_n 1, 19, 1, 0, .null, false),
  (29, .lreturn, 0, 0, 0, .null, false)]
def q_X3_sum : List (List mm_N) := [q_X3_sum_0]
def q_X3_digestFrom_0 : List mm_N := [(0, .ldc2_w 40, 1, 0, 0, .long 31, false),
  (3, .lload_n 1, 2, 1, 0, .null, false),
  (4, .lmul, 3, 0, 0, .null, false),
  (5, .aload_n 0, 4, 0, 0, .null, false),
  (6, .getfield 7, 5, 3, 1, .null, false),
  (9, .i2l, 6, 0, 0, .null, false),
  (10, .ladd, 7, 0, 0, .null, false),
  (11, .lstore_n 3, 8, 3, 0, .null, false),
  (12, .iconst 0, 9, 0, 0, .int 0, false),
  (13, .istore 5, 10, 5, 0, .null, false),
  (15, .iload 5, 11, 5, 0, .null, true),
  (17, .aload_n 0, 12, 0, 0, .null, false),
  (18, .getfield 7, 13, 3, 1, .null, false),
  (21, .if_icmp .ge 24, 14, 26, 0, .null, false),
  (24, .ldc2_w 40, 15, 0, 0, .long 31, false),
  (27, .lload_n 3, 16, 3, 0, .null, false),
  (28, .lmul, 17, 0, 0, .null, false),
  (29, .aload_n 0, 18, 0, 0, .null, false),
  (30, .getfield 19, 19, 3, 0, .null, false),
  (33, .iload 5, 20, 5, 0, .null, false),
  (35, .iaload, 21, 0, 0, .null, false),
  (36, .i2l, 22, 0, 0, .null, false),
  (37, .ladd, 23, 0, 0, .null, false),
  (38, .lstore_n 3, 24, 3, 0, .null, false),
  (39, .iinc 5 1, 25, 5, 0, .int 1, false),
  (42, .goto (-27), 0, 10, 0, .null, false),
  (45, .lload_n 3, 27, 3, 0, .null, false),
  (46, .lreturn, 0, 0, 0, .null, false)]
def q_X3_digestFrom : List (List mm_N) := [q_X3_digestFrom_0]
def q_X4_init_0 : List mm_N := [(0, .aload_n 0, 1, 0, 0, .null, false),
  (1, .invokespecial 3, 2, 1000, 1, .null, false),
  (4, .aload_n 0, 3, 0, 0, .null, false),
  (5, .sipush 512, 4, 0, 0, .int 512, false),
  (8, .newarray .int, 5, 0, 0, .null, false),
  (10, .putfield 9, 6, 4, 0, .null, false),
  (13, .aload_n 0, 7, 0, 0, .null, false),
  (14, .iconst 0, 8, 0, 0, .int 0, false),
  (15, .putfield 15, 9, 4, 1, .null, false),
  (18, .aload_n 0, 10, 0, 0, .null, false),
  (19, .iconst 0, 11, 0, 0, .int 0, false),
  (20, .putfield 19, 12, 4, 2, .null, false),
  (23, .aload_n 0, 13, 0, 0, .null, false),
  (24, .iconst 0, 14, 0, 0, .int 0, false),
  (25, .putfield 22, 15, 4, 3, .null, false),
  (28, .aload_n 0, 16, 0, 0, .null, false),
  (29, .iconst 0, 17, 0, 0, .int 0, false),
  (30, .putfield 25, 18, 4, 4, .null, false),
  (33, .return_, 0, 0, 0, .null, false)]
def q_X4_init : List (List mm_N) := [q_X4_init_0]
def q_X4_find_0 : List mm_N := [(0, .aload_n 0, 1, 0, 0, .null, false),
  (1, .iconst 1, 2, 0, 0, .int 1, false),
  (2, .aload_n 1, 3, 1, 0, .null, false),
  (3, .getfield 28, 4, 0, 7, .null, false),
  (6, .ishl, 5, 0, 0, .null, false),
  (7, .iconst 1, 6, 0, 0, .int 1, false),
  (8, .isub, 7, 0, 0, .null, false),
  (9, .putfield 25, 8, 4, 4, .null, false),
  (12, .aload_n 0, 9, 0, 0, .null, false),
  (13, .iconst 0, 10, 0, 0, .int 0, false),
  (14, .putfield 15, 11, 4, 1, .null, false),
  (17, .aload_n 0, 12, 0, 0, .null, false),
  (18, .aload_n 0, 13, 0, 0, .null, false),
  (19, .getfield 25, 14, 4, 4, .null, false),
  (22, .putfield 19, 15, 4, 2, .null, false),
  (25, .aload_n 0, 16, 0, 0, .null, false),
  (26, .iconst 0, 17, 0, 0, .int 0, false),
  (27, .putfield 22, 18, 4, 3, .null, false),
  (30, .iconst 0, 19, 0, 0, .int 0, false),
  (31, .istore_n 2, 20, 2, 0, .null, false),
  (32, .iload_n 2, 21, 2, 0, .null, true),
  (33, .aload_n 0, 22, 0, 0, .null, false),
  (34, .getfield 25, 23, 4, 4, .null, false),
  (37, .if_icmp .gt 80, 24, 69, 0, .null, false),
  (40, .aload_n 1, 25, 1, 0, .null, false),
  (41, .iload_n 2, 26, 2, 0, .null, false),
  (42, .invokevirtual 33, 27, 5, 2, .null, false),
  (45, .istore_n 3, 28, 3, 0, .null, false),
  (46, .iload_n 3, 29, 3, 0, .null, false),
  (47, .ifCond .eq 12, 30, 37, 0, .null, false),
  (50, .iload_n 2, 31, 2, 0, .null, false),
  (51, .iload_n 3, 32, 3, 0, .null, false)]
def q_X4_find_1 : List mm_N := [(52, .iconst 1, 33, 0, 0, .int 1, false),
  (53, .isub, 34, 0, 0, .null, false),
  (54, .ior, 35, 0, 0, .null, false),
  (55, .istore_n 2, 36, 2, 0, .null, false),
  (56, .goto 55, 0, 67, 0, .null, false),
  (59, .aload_n 0, 38, 0, 0, .null, false),
  (60, .getfield 15, 39, 4, 1, .null, false),
  (63, .aload_n 0, 40, 0, 0, .null, false),
  (64, .getfield 9, 41, 4, 0, .null, false),
  (67, .arraylength, 42, 0, 0, .null, false),
  (68, .if_icmp .ge 43, 43, 67, 0, .null, false),
  (71, .aload_n 0, 44, 0, 0, .null, false),
  (72, .getfield 9, 45, 4, 0, .null, false),
  (75, .aload_n 0, 46, 0, 0, .null, false),
  (76, .getfield 15, 47, 4, 1, .null, false),
  (79, .iload_n 2, 48, 2, 0, .null, false),
  (80, .iastore, 49, 0, 0, .null, false),
  (81, .aload_n 0, 50, 0, 0, .null, false),
  (82, .dup, 51, 0, 0, .null, false),
  (83, .getfield 15, 52, 4, 1, .null, false),
  (86, .iconst 1, 53, 0, 0, .int 1, false),
  (87, .iadd, 54, 0, 0, .null, false),
  (88, .putfield 15, 55, 4, 1, .null, false),
  (91, .aload_n 0, 56, 0, 0, .null, false),
  (92, .dup, 57, 0, 0, .null, false),
  (93, .getfield 19, 58, 4, 2, .null, false),
  (96, .iload_n 2, 59, 2, 0, .null, false),
  (97, .iand, 60, 0, 0, .null, false),
  (98, .putfield 19, 61, 4, 2, .null, false),
  (101, .aload_n 0, 62, 0, 0, .null, false),
  (102, .dup, 63, 0, 0, .null, false),
  (103, .getfield 22, 64, 4, 3, .null, false)]
def q_X4_find_2 : List mm_N := [(106, .iload_n 2, 65, 2, 0, .null, false),
  (107, .ior, 66, 0, 0, .null, false),
  (108, .putfield 22, 67, 4, 3, .null, false),
  (111, .iinc 2 1, 68, 2, 0, .int 1, true),
  (114, .goto (-82), 0, 20, 0, .null, false),
  (117, .return_, 0, 0, 0, .null, false)]
def q_X4_find : List (List mm_N) := [q_X4_find_0, q_X4_find_1, q_X4_find_2]
def q_X4_first_0 : List mm_N := [(0, .aload_n 0, 1, 0, 0, .null, false),
  (1, .getfield 15, 2, 4, 1, .null, false),
  (4, .ifCond .ne 8, 3, 5, 0, .null, false),
  (7, .bipush (-9), 4, 0, 0, .int (-9), false),
  (9, .goto 9, 0, 9, 0, .null, false),
  (12, .aload_n 0, 6, 0, 0, .null, false),
  (13, .getfield 9, 7, 4, 0, .null, false),
  (16, .iconst 0, 8, 0, 0, .int 0, false),
  (17, .iaload, 9, 0, 0, .null, false),
  (18, .ireturn, 0, 0, 0, .null, true)]
def q_X4_first : List (List mm_N) := [q_X4_first_0]
def q_X4_surelyStanding_0 : List mm_N := [(0, .aload_n 0, 1, 0, 0, .null, false),
  (1, .getfield 15, 2, 4, 1, .null, false),
  (4, .ifCond .ne 7, 3, 5, 0, .null, false),
  (7, .iconst 0, 4, 0, 0, .int 0, false),
  (8, .goto 7, 0, 7, 0, .null, false),
  (11, .aload_n 0, 6, 0, 0, .null, false),
  (12, .getfield 19, 7, 4, 2, .null, false),
  (15, .ireturn, 0, 0, 0, .null, true)]
def q_X4_surelyStanding : List (List mm_N) := [q_X4_surelyStanding_0]
def q_X4_surelyFalling_0 : List mm_N := [(0, .aload_n 0, 1, 0, 0, .null, false),
  (1, .getfield 15, 2, 4, 1, .null, false),
  (4, .ifCond .ne 7, 3, 5, 0, .null, false),
  (7, .iconst 0, 4, 0, 0, .int 0, false),
  (8, .goto 14, 0, 12, 0, .null, false),
  (11, .aload_n 0, 6, 0, 0, .null, false),
  (12, .getfield 25, 7, 4, 4, .null, false),
  (15, .aload_n 0, 8, 0, 0, .null, false),
  (16, .getfield 22, 9, 4, 3, .null, false),
  (19, .iconst (-1), 10, 0, 0, .int (-1), false),
  (20, .ixor, 11, 0, 0, .null, false),
  (21, .iand, 12, 0, 0, .null, false),
  (22, .ireturn, 0, 0, 0, .null, true)]
def q_X4_surelyFalling : List (List mm_N) := [q_X4_surelyFalling_0]
def q_X4_waysWith_0 : List mm_N := [(0, .iconst 0, 1, 0, 0, .int 0, false),
  (1, .istore_n 2, 2, 2, 0, .null, false),
  (2, .iconst 0, 3, 0, 0, .int 0, false),
  (3, .istore_n 3, 4, 3, 0, .null, false),
  (4, .iload_n 3, 5, 3, 0, .null, true),
  (5, .aload_n 0, 6, 0, 0, .null, false),
  (6, .getfield 15, 7, 4, 1, .null, false),
  (9, .if_icmp .ge 22, 8, 21, 0, .null, false),
  (12, .iload_n 2, 9, 2, 0, .null, false),
  (13, .aload_n 0, 10, 0, 0, .null, false),
  (14, .getfield 9, 11, 4, 0, .null, false),
  (17, .iload_n 3, 12, 3, 0, .null, false),
  (18, .iaload, 13, 0, 0, .null, false),
  (19, .iload_n 1, 14, 1, 0, .null, false),
  (20, .ishr, 15, 0, 0, .null, false),
  (21, .iconst 1, 16, 0, 0, .int 1, false),
  (22, .iand, 17, 0, 0, .null, false),
  (23, .iadd, 18, 0, 0, .null, false),
  (24, .istore_n 2, 19, 2, 0, .null, false),
  (25, .iinc 3 1, 20, 3, 0, .int 1, false),
  (28, .goto (-24), 0, 4, 0, .null, false),
  (31, .iload_n 2, 22, 2, 0, .null, false),
  (32, .ireturn, 0, 0, 0, .null, false)]
def q_X4_waysWith : List (List mm_N) := [q_X4_waysWith_0]
def q_X4_meets_0 : List mm_N := [(0, .iload_n 1, 1, 1, 0, .null, false),
  (1, .iconst 2, 2, 0, 0, .int 2, false),
  (2, .if_icmp .ne 17, 3, 11, 0, .null, false),
  (5, .aload_n 0, 4, 0, 0, .null, false),
  (6, .getfield 15, 5, 4, 1, .null, false),
  (9, .iconst 1, 6, 0, 0, .int 1, false),
  (10, .if_icmp .ne 7, 7, 9, 0, .null, false),
  (13, .iconst 1, 8, 0, 0, .int 1, false),
  (14, .goto 4, 0, 10, 0, .null, false),
  (17, .iconst 0, 10, 0, 0, .int 0, false),
  (18, .ireturn, 0, 0, 0, .null, true),
  (19, .iload_n 1, 12, 1, 0, .null, false),
  (20, .iconst 1, 13, 0, 0, .int 1, false),
  (21, .if_icmp .ne 10, 14, 17, 0, .null, false),
  (24, .aload_n 0, 15, 0, 0, .null, false),
  (25, .invokevirtual 37, 16, 47, 1, .null, false),
  (28, .goto 7, 0, 19, 0, .null, false),
  (31, .aload_n 0, 18, 0, 0, .null, false),
  (32, .invokevirtual 41, 19, 48, 1, .null, false),
  (35, .iload_n 2, 20, 2, 0, .null, true),
  (36, .invokestatic 44, 21, 101, 2, .null, false),
  (39, .ireturn, 0, 0, 0, .null, false)]
def q_X4_meets : List (List mm_N) := [q_X4_meets_0]
def q_X5_init_0 : List mm_N := [(0, .aload_n 0, 1, 0, 0, .null, false),
  (1, .invokespecial 1, 2, 1000, 1, .null, false),
  (4, .aload_n 0, 3, 0, 0, .null, false),
  (5, .bipush 6, 4, 0, 0, .int 6, false),
  (7, .anewarray 9, 5, 3, 0, .null, false),
  (10, .putfield 11, 6, 5, 0, .null, false),
  (13, .aload_n 0, 7, 0, 0, .null, false),
  (14, .iconst 4, 8, 0, 0, .int 4, false),
  (15, .anewarray 9, 9, 3, 0, .null, false),
  (18, .putfield 15, 10, 5, 1, .null, false),
  (21, .aload_n 0, 11, 0, 0, .null, false),
  (22, .new 18, 12, 1, 0, .null, false),
  (25, .dup, 13, 0, 0, .null, false),
  (26, .invokespecial 20, 14, 7, 1, .null, false),
  (29, .putfield 21, 15, 5, 2, .null, false),
  (32, .aload_n 0, 16, 0, 0, .null, false),
  (33, .iconst 3, 17, 0, 0, .int 3, false),
  (34, .anewarray 18, 18, 1, 0, .null, false),
  (37, .putfield 25, 19, 5, 3, .null, false),
  (40, .aload_n 0, 20, 0, 0, .null, false),
  (41, .new 29, 21, 2, 0, .null, false),
  (44, .dup, 22, 0, 0, .null, false),
  (45, .invokespecial 31, 23, 26, 1, .null, false),
  (48, .putfield 32, 24, 5, 4, .null, false),
  (51, .aload_n 0, 25, 0, 0, .null, false),
  (52, .new 36, 26, 0, 0, .null, false),
  (55, .dup, 27, 0, 0, .null, false),
  (56, .invokespecial 38, 28, 0, 1, .null, false),
  (59, .putfield 39, 29, 5, 5, .null, false),
  (62, .aload_n 0, 30, 0, 0, .null, false),
  (63, .new 43, 31, 4, 0, .null, false),
  (66, .dup, 32, 0, 0, .null, false)]
def q_X5_init_1 : List mm_N := [(67, .invokespecial 45, 33, 44, 1, .null, false),
  (70, .putfield 46, 34, 5, 6, .null, false),
  (73, .aload_n 0, 35, 0, 0, .null, false),
  (74, .iconst 3, 36, 0, 0, .int 3, false),
  (75, .newarray .int, 37, 0, 0, .null, false),
  (77, .putfield 50, 38, 5, 7, .null, false),
  (80, .aload_n 0, 39, 0, 0, .null, false),
  (81, .bipush 6, 40, 0, 0, .int 6, false),
  (83, .newarray .int, 41, 0, 0, .null, false),
  (85, .putfield 54, 42, 5, 8, .null, false),
  (88, .aload_n 0, 43, 0, 0, .null, false),
  (89, .iconst 0, 44, 0, 0, .int 0, false),
  (90, .putfield 57, 45, 5, 9, .null, false),
  (93, .aload_n 0, 46, 0, 0, .null, false),
  (94, .iconst 0, 47, 0, 0, .int 0, false),
  (95, .putfield 61, 48, 5, 10, .null, false),
  (98, .aload_n 0, 49, 0, 0, .null, false),
  (99, .lconst 0, 50, 0, 0, .long 0, false),
  (100, .putfield 64, 51, 5, 11, .null, false),
  (103, .aload_n 0, 52, 0, 0, .null, false),
  (104, .lconst 1, 53, 0, 0, .long 1, false),
  (105, .putfield 68, 54, 5, 12, .null, false),
  (108, .iconst 0, 55, 0, 0, .int 0, false),
  (109, .istore_n 1, 56, 1, 0, .null, false),
  (110, .iload_n 1, 57, 1, 0, .null, true),
  (111, .bipush 6, 58, 0, 0, .int 6, false),
  (113, .if_icmp .ge 24, 59, 69, 0, .null, false),
  (116, .aload_n 0, 60, 0, 0, .null, false),
  (117, .getfield 11, 61, 5, 0, .null, false),
  (120, .iload_n 1, 62, 1, 0, .null, false),
  (121, .new 9, 63, 3, 0, .null, false),
  (124, .dup, 64, 0, 0, .null, false)]
def q_X5_init_2 : List mm_N := [(125, .bipush 40, 65, 0, 0, .int 40, false),
  (127, .invokespecial 71, 66, 34, 2, .null, false),
  (130, .aastore, 67, 0, 0, .null, false),
  (131, .iinc 1 1, 68, 1, 0, .int 1, false),
  (134, .goto (-24), 0, 56, 0, .null, false),
  (137, .iconst 0, 70, 0, 0, .int 0, false),
  (138, .istore_n 1, 71, 1, 0, .null, false),
  (139, .iload_n 1, 72, 1, 0, .null, true),
  (140, .iconst 4, 73, 0, 0, .int 4, false),
  (141, .if_icmp .ge 24, 74, 84, 0, .null, false),
  (144, .aload_n 0, 75, 0, 0, .null, false),
  (145, .getfield 15, 76, 5, 1, .null, false),
  (148, .iload_n 1, 77, 1, 0, .null, false),
  (149, .new 9, 78, 3, 0, .null, false),
  (152, .dup, 79, 0, 0, .null, false),
  (153, .bipush 80, 80, 0, 0, .int 80, false),
  (155, .invokespecial 71, 81, 34, 2, .null, false),
  (158, .aastore, 82, 0, 0, .null, false),
  (159, .iinc 1 1, 83, 1, 0, .int 1, false),
  (162, .goto (-23), 0, 71, 0, .null, false),
  (165, .iconst 0, 85, 0, 0, .int 0, false),
  (166, .istore_n 1, 86, 1, 0, .null, false),
  (167, .iload_n 1, 87, 1, 0, .null, true),
  (168, .iconst 3, 88, 0, 0, .int 3, false),
  (169, .if_icmp .ge 22, 89, 98, 0, .null, false),
  (172, .aload_n 0, 90, 0, 0, .null, false),
  (173, .getfield 25, 91, 5, 3, .null, false),
  (176, .iload_n 1, 92, 1, 0, .null, false),
  (177, .new 18, 93, 1, 0, .null, false),
  (180, .dup, 94, 0, 0, .null, false),
  (181, .invokespecial 20, 95, 7, 1, .null, false),
  (184, .aastore, 96, 0, 0, .null, false)]
def q_X5_init_3 : List mm_N := [(185, .iinc 1 1, 97, 1, 0, .int 1, false),
  (188, .goto (-21), 0, 86, 0, .null, false),
  (191, .return_, 0, 0, 0, .null, false)]
def q_X5_init : List (List mm_N) := [q_X5_init_0, q_X5_init_1, q_X5_init_2, q_X5_init_3]
def q_X5_row_0 : List mm_N := [(0, .aload_n 0, 1, 0, 0, .null, false),
  (1, .aload_n 0, 2, 0, 0, .null, false),
  (2, .getfield 11, 3, 5, 0, .null, false),
  (5, .iload_n 1, 4, 1, 0, .null, false),
  (6, .iload_n 2, 5, 2, 0, .null, false),
  (7, .iconst 0, 6, 0, 0, .int 0, false),
  (8, .invokevirtual 74, 7, 106, 5, .null, false),
  (11, .ireturn, 0, 0, 0, .null, false)]
def q_X5_row : List (List mm_N) := [q_X5_row_0]
def q_X5_lay_0 : List mm_N := [(0, .iload_n 1, 1, 1, 0, .null, false),
  (1, .bipush 6, 2, 0, 0, .int 6, false),
  (3, .invokestatic 78, 3, 100, 2, .null, false),
  (6, .ifCond .ne 5, 4, 6, 0, .null, false),
  (9, .iconst (-1), 5, 0, 0, .int (-1), false),
  (10, .ireturn, 0, 0, 0, .null, false),
  (11, .aload_n 0, 7, 0, 0, .null, false),
  (12, .aload_n 0, 8, 0, 0, .null, false),
  (13, .getfield 11, 9, 5, 0, .null, false),
  (16, .iload_n 1, 10, 1, 0, .null, false),
  (17, .aaload, 11, 0, 0, .null, false),
  (18, .iload_n 2, 12, 2, 0, .null, false),
  (19, .invokevirtual 82, 13, 107, 3, .null, false),
  (22, .istore 4, 14, 4, 0, .null, false),
  (24, .iload 4, 15, 4, 0, .null, false),
  (26, .ifCond .eq 8, 16, 18, 0, .null, false),
  (29, .iload 4, 17, 4, 0, .null, false),
  (31, .goto 18, 0, 27, 0, .null, false),
  (34, .aload_n 0, 19, 0, 0, .null, false),
  (35, .aload_n 0, 20, 0, 0, .null, false),
  (36, .getfield 11, 21, 5, 0, .null, false),
  (39, .iload_n 1, 22, 1, 0, .null, false),
  (40, .aaload, 23, 0, 0, .null, false),
  (41, .iload_n 2, 24, 2, 0, .null, false),
  (42, .iload_n 3, 25, 3, 0, .null, false),
  (43, .invokevirtual 86, 26, 39, 3, .null, false),
  (46, .invokevirtual 90, 27, 105, 2, .null, false),
  (49, .ireturn, 0, 0, 0, .null, true)]
def q_X5_lay : List (List mm_N) := [q_X5_lay_0]
def q_X5_at_0 : List mm_N := [(0, .iload_n 1, 1, 1, 0, .null, false),
  (1, .bipush 6, 2, 0, 0, .int 6, false),
  (3, .invokestatic 78, 3, 100, 2, .null, false),
  (6, .ifCond .ne 5, 4, 6, 0, .null, false),
  (9, .iconst (-1), 5, 0, 0, .int (-1), false),
  (10, .ireturn, 0, 0, 0, .null, false),
  (11, .aload_n 0, 7, 0, 0, .null, false),
  (12, .aload_n 0, 8, 0, 0, .null, false),
  (13, .getfield 11, 9, 5, 0, .null, false),
  (16, .iload_n 1, 10, 1, 0, .null, false),
  (17, .aaload, 11, 0, 0, .null, false),
  (18, .iload_n 2, 12, 2, 0, .null, false),
  (19, .invokevirtual 82, 13, 107, 3, .null, false),
  (22, .istore_n 3, 14, 3, 0, .null, false),
  (23, .iload_n 3, 15, 3, 0, .null, false),
  (24, .ifCond .eq 7, 16, 18, 0, .null, false),
  (27, .iload_n 3, 17, 3, 0, .null, false),
  (28, .goto 17, 0, 26, 0, .null, false),
  (31, .aload_n 0, 19, 0, 0, .null, false),
  (32, .aload_n 0, 20, 0, 0, .null, false),
  (33, .getfield 11, 21, 5, 0, .null, false),
  (36, .iload_n 1, 22, 1, 0, .null, false),
  (37, .aaload, 23, 0, 0, .null, false),
  (38, .iload_n 2, 24, 2, 0, .null, false),
  (39, .invokevirtual 94, 25, 38, 2, .null, false),
  (42, .invokevirtual 90, 26, 105, 2, .null, false),
  (45, .ireturn, 0, 0, 0, .null, true)]
def q_X5_at : List (List mm_N) := [q_X5_at_0]
def q_X5_tear_0 : List mm_N := [(0, .iload_n 1, 1, 1, 0, .null, false),
  (1, .bipush 6, 2, 0, 0, .int 6, false),
  (3, .invokestatic 78, 3, 100, 2, .null, false),
  (6, .ifCond .ne 5, 4, 6, 0, .null, false),
  (9, .iconst (-1), 5, 0, 0, .int (-1), false),
  (10, .ireturn, 0, 0, 0, .null, false),
  (11, .aload_n 0, 7, 0, 0, .null, false),
  (12, .getfield 11, 8, 5, 0, .null, false),
  (15, .iload_n 1, 9, 1, 0, .null, false),
  (16, .aaload, 10, 0, 0, .null, false),
  (17, .invokevirtual 97, 11, 35, 1, .null, false),
  (20, .ifCond .eq 9, 12, 16, 0, .null, false),
  (23, .aload_n 0, 13, 0, 0, .null, false),
  (24, .iconst 1, 14, 0, 0, .int 1, false),
  (25, .invokevirtual 101, 15, 104, 2, .null, false),
  (28, .ireturn, 0, 0, 0, .null, false),
  (29, .aload_n 0, 17, 0, 0, .null, false),
  (30, .getfield 11, 18, 5, 0, .null, false),
  (33, .iload_n 1, 19, 1, 0, .null, false),
  (34, .aaload, 20, 0, 0, .null, false),
  (35, .invokevirtual 104, 21, 41, 1, .null, false),
  (38, .iconst 1, 22, 0, 0, .int 1, false),
  (39, .ireturn, 0, 0, 0, .null, false)]
def q_X5_tear : List (List mm_N) := [q_X5_tear_0]
def q_X5_copy_0 : List mm_N := [(0, .iload_n 1, 1, 1, 0, .null, false),
  (1, .bipush 6, 2, 0, 0, .int 6, false),
  (3, .invokestatic 78, 3, 100, 2, .null, false),
  (6, .ifCond .eq 12, 4, 8, 0, .null, false),
  (9, .iload_n 3, 5, 3, 0, .null, false),
  (10, .bipush 6, 6, 0, 0, .int 6, false),
  (12, .invokestatic 78, 7, 100, 2, .null, false),
  (15, .ifCond .ne 5, 8, 10, 0, .null, false),
  (18, .iconst (-1), 9, 0, 0, .int (-1), true),
  (19, .ireturn, 0, 0, 0, .null, false),
  (20, .iload 5, 11, 5, 0, .null, false),
  (22, .ifCond .ge 9, 12, 16, 0, .null, false),
  (25, .aload_n 0, 13, 0, 0, .null, false),
  (26, .iconst 5, 14, 0, 0, .int 5, false),
  (27, .invokevirtual 101, 15, 104, 2, .null, false),
  (30, .ireturn, 0, 0, 0, .null, false),
  (31, .aload_n 0, 17, 0, 0, .null, false),
  (32, .getfield 11, 18, 5, 0, .null, false),
  (35, .iload_n 1, 19, 1, 0, .null, false),
  (36, .aaload, 20, 0, 0, .null, false),
  (37, .invokevirtual 97, 21, 35, 1, .null, false),
  (40, .ifCond .ne 15, 22, 28, 0, .null, false),
  (43, .aload_n 0, 23, 0, 0, .null, false),
  (44, .getfield 11, 24, 5, 0, .null, false),
  (47, .iload_n 3, 25, 3, 0, .null, false),
  (48, .aaload, 26, 0, 0, .null, false),
  (49, .invokevirtual 97, 27, 35, 1, .null, false),
  (52, .ifCond .eq 9, 28, 32, 0, .null, false),
  (55, .aload_n 0, 29, 0, 0, .null, true),
  (56, .iconst 1, 30, 0, 0, .int 1, false),
  (57, .invokevirtual 101, 31, 104, 2, .null, false),
  (60, .ireturn, 0, 0, 0, .null, false)]
def q_X5_copy_1 : List mm_N := [(61, .aload_n 0, 33, 0, 0, .null, false),
  (62, .getfield 11, 34, 5, 0, .null, false),
  (65, .iload_n 1, 35, 1, 0, .null, false),
  (66, .aaload, 36, 0, 0, .null, false),
  (67, .iload_n 2, 37, 2, 0, .null, false),
  (68, .iload 5, 38, 5, 0, .null, false),
  (70, .invokevirtual 107, 39, 37, 3, .null, false),
  (73, .ifCond .eq 19, 40, 48, 0, .null, false),
  (76, .aload_n 0, 41, 0, 0, .null, false),
  (77, .getfield 11, 42, 5, 0, .null, false),
  (80, .iload_n 3, 43, 3, 0, .null, false),
  (81, .aaload, 44, 0, 0, .null, false),
  (82, .iload 4, 45, 4, 0, .null, false),
  (84, .iload 5, 46, 5, 0, .null, false),
  (86, .invokevirtual 107, 47, 37, 3, .null, false),
  (89, .ifCond .ne 9, 48, 52, 0, .null, false),
  (92, .aload_n 0, 49, 0, 0, .null, true),
  (93, .iconst 2, 50, 0, 0, .int 2, false),
  (94, .invokevirtual 101, 51, 104, 2, .null, false),
  (97, .ireturn, 0, 0, 0, .null, false),
  (98, .aload_n 0, 53, 0, 0, .null, false),
  (99, .getfield 11, 54, 5, 0, .null, false),
  (102, .iload_n 1, 55, 1, 0, .null, false),
  (103, .aaload, 56, 0, 0, .null, false),
  (104, .getfield 110, 57, 3, 0, .null, false),
  (107, .iload_n 2, 58, 2, 0, .null, false),
  (108, .aload_n 0, 59, 0, 0, .null, false),
  (109, .getfield 11, 60, 5, 0, .null, false),
  (112, .iload_n 3, 61, 3, 0, .null, false),
  (113, .aaload, 62, 0, 0, .null, false),
  (114, .getfield 110, 63, 3, 0, .null, false),
  (117, .iload 4, 64, 4, 0, .null, false)]
def q_X5_copy_2 : List mm_N := [(119, .iload 5, 65, 5, 0, .null, false),
  (121, .invokestatic 113, 66, 1001, 5, .null, false),
  (124, .iconst 1, 67, 0, 0, .int 1, false),
  (125, .ireturn, 0, 0, 0, .null, false)]
def q_X5_copy : List (List mm_N) := [q_X5_copy_0, q_X5_copy_1, q_X5_copy_2]
def q_X5_mean_0 : List mm_N := [(0, .iload_n 1, 1, 1, 0, .null, false),
  (1, .bipush 6, 2, 0, 0, .int 6, false),
  (3, .invokestatic 78, 3, 100, 2, .null, false),
  (6, .ifCond .ne 5, 4, 6, 0, .null, false),
  (9, .iconst (-1), 5, 0, 0, .int (-1), false),
  (10, .ireturn, 0, 0, 0, .null, false),
  (11, .aload_n 0, 7, 0, 0, .null, false),
  (12, .getfield 11, 8, 5, 0, .null, false),
  (15, .iload_n 1, 9, 1, 0, .null, false),
  (16, .aaload, 10, 0, 0, .null, false),
  (17, .invokevirtual 97, 11, 35, 1, .null, false),
  (20, .ifCond .eq 9, 12, 16, 0, .null, false),
  (23, .aload_n 0, 13, 0, 0, .null, false),
  (24, .iconst 1, 14, 0, 0, .int 1, false),
  (25, .invokevirtual 101, 15, 104, 2, .null, false),
  (28, .ireturn, 0, 0, 0, .null, false),
  (29, .aload_n 0, 17, 0, 0, .null, false),
  (30, .getfield 11, 18, 5, 0, .null, false),
  (33, .iload_n 1, 19, 1, 0, .null, false),
  (34, .aaload, 20, 0, 0, .null, false),
  (35, .getfield 119, 21, 3, 1, .null, false),
  (38, .istore_n 2, 22, 2, 0, .null, false),
  (39, .iload_n 2, 23, 2, 0, .null, false),
  (40, .ifCond .ne 9, 24, 28, 0, .null, false),
  (43, .aload_n 0, 25, 0, 0, .null, false),
  (44, .iconst 4, 26, 0, 0, .int 4, false),
  (45, .invokevirtual 101, 27, 104, 2, .null, false),
  (48, .ireturn, 0, 0, 0, .null, false),
  (49, .aload_n 0, 29, 0, 0, .null, false),
  (50, .aload_n 0, 30, 0, 0, .null, false),
  (51, .getfield 11, 31, 5, 0, .null, false),
  (54, .iload_n 1, 32, 1, 0, .null, false)]
def q_X5_mean_1 : List mm_N := [(55, .aaload, 33, 0, 0, .null, false),
  (56, .invokevirtual 122, 34, 42, 1, .null, false),
  (59, .iload_n 2, 35, 2, 0, .null, false),
  (60, .i2l, 36, 0, 0, .null, false),
  (61, .ldiv, 37, 0, 0, .null, false),
  (62, .l2i, 38, 0, 0, .null, false),
  (63, .invokevirtual 90, 39, 105, 2, .null, false),
  (66, .ireturn, 0, 0, 0, .null, false)]
def q_X5_mean : List (List mm_N) := [q_X5_mean_0, q_X5_mean_1]
def q_X5_text_0 : List mm_N := [(0, .aload_n 0, 1, 0, 0, .null, false),
  (1, .aload_n 0, 2, 0, 0, .null, false),
  (2, .getfield 15, 3, 5, 1, .null, false),
  (5, .iload_n 1, 4, 1, 0, .null, false),
  (6, .iload_n 2, 5, 2, 0, .null, false),
  (7, .bipush 32, 6, 0, 0, .int 32, false),
  (9, .invokevirtual 74, 7, 106, 5, .null, false),
  (12, .ireturn, 0, 0, 0, .null, false)]
def q_X5_text : List (List mm_N) := [q_X5_text_0]
def q_X5_put_0 : List mm_N := [(0, .iload_n 1, 1, 1, 0, .null, false),
  (1, .iconst 4, 2, 0, 0, .int 4, false),
  (2, .invokestatic 78, 3, 100, 2, .null, false),
  (5, .ifCond .ne 5, 4, 6, 0, .null, false),
  (8, .iconst (-1), 5, 0, 0, .int (-1), false),
  (9, .ireturn, 0, 0, 0, .null, false),
  (10, .aload_n 0, 7, 0, 0, .null, false),
  (11, .aload_n 0, 8, 0, 0, .null, false),
  (12, .getfield 15, 9, 5, 1, .null, false),
  (15, .iload_n 1, 10, 1, 0, .null, false),
  (16, .aaload, 11, 0, 0, .null, false),
  (17, .iload_n 2, 12, 2, 0, .null, false),
  (18, .invokevirtual 82, 13, 107, 3, .null, false),
  (21, .istore 4, 14, 4, 0, .null, false),
  (23, .iload 4, 15, 4, 0, .null, false),
  (25, .ifCond .eq 8, 16, 18, 0, .null, false),
  (28, .iload 4, 17, 4, 0, .null, false),
  (30, .goto 19, 0, 28, 0, .null, false),
  (33, .aload_n 0, 19, 0, 0, .null, false),
  (34, .getfield 15, 20, 5, 1, .null, false),
  (37, .iload_n 1, 21, 1, 0, .null, false),
  (38, .aaload, 22, 0, 0, .null, false),
  (39, .iload_n 2, 23, 2, 0, .null, false),
  (40, .iload_n 3, 24, 3, 0, .null, false),
  (41, .i2b, 25, 0, 0, .null, false),
  (42, .invokevirtual 86, 26, 39, 3, .null, false),
  (45, .sipush 1000, 27, 0, 0, .int 1000, false),
  (48, .iadd, 28, 0, 0, .null, false),
  (49, .ireturn, 0, 0, 0, .null, true)]
def q_X5_put : List (List mm_N) := [q_X5_put_0]
def q_X5_fault_0 : List mm_N := [(0, .iload_n 1, 1, 1, 0, .null, false),
  (1, .iconst 4, 2, 0, 0, .int 4, false),
  (2, .invokestatic 78, 3, 100, 2, .null, false),
  (5, .ifCond .ne 5, 4, 6, 0, .null, false),
  (8, .iconst (-1), 5, 0, 0, .int (-1), false),
  (9, .ireturn, 0, 0, 0, .null, false),
  (10, .aload_n 0, 7, 0, 0, .null, false),
  (11, .getfield 15, 8, 5, 1, .null, false),
  (14, .iload_n 1, 9, 1, 0, .null, false),
  (15, .aaload, 10, 0, 0, .null, false),
  (16, .invokevirtual 97, 11, 35, 1, .null, false),
  (19, .ifCond .eq 9, 12, 16, 0, .null, false),
  (22, .aload_n 0, 13, 0, 0, .null, false),
  (23, .iconst 1, 14, 0, 0, .int 1, false),
  (24, .invokevirtual 101, 15, 104, 2, .null, false),
  (27, .ireturn, 0, 0, 0, .null, false),
  (28, .aload_n 0, 17, 0, 0, .null, false),
  (29, .getfield 32, 18, 5, 4, .null, false),
  (32, .aload_n 0, 19, 0, 0, .null, false),
  (33, .getfield 15, 20, 5, 1, .null, false),
  (36, .iload_n 1, 21, 1, 0, .null, false),
  (37, .aaload, 22, 0, 0, .null, false),
  (38, .invokevirtual 126, 23, 27, 2, .null, false),
  (41, .ireturn, 0, 0, 0, .null, false)]
def q_X5_fault : List (List mm_N) := [q_X5_fault_0]
def q_X5_court_0 : List mm_N := [(0, .iload_n 1, 1, 1, 0, .null, false),
  (1, .iconst 4, 2, 0, 0, .int 4, false),
  (2, .invokestatic 78, 3, 100, 2, .null, false),
  (5, .ifCond .ne 5, 4, 6, 0, .null, false),
  (8, .iconst (-1), 5, 0, 0, .int (-1), false),
  (9, .ireturn, 0, 0, 0, .null, false),
  (10, .aload_n 0, 7, 0, 0, .null, false),
  (11, .getfield 15, 8, 5, 1, .null, false),
  (14, .iload_n 1, 9, 1, 0, .null, false),
  (15, .aaload, 10, 0, 0, .null, false),
  (16, .invokevirtual 97, 11, 35, 1, .null, false),
  (19, .ifCond .eq 9, 12, 16, 0, .null, false),
  (22, .aload_n 0, 13, 0, 0, .null, false),
  (23, .iconst 1, 14, 0, 0, .int 1, false),
  (24, .invokevirtual 101, 15, 104, 2, .null, false),
  (27, .ireturn, 0, 0, 0, .null, false),
  (28, .aload_n 0, 17, 0, 0, .null, false),
  (29, .getfield 32, 18, 5, 4, .null, false),
  (32, .aload_n 0, 19, 0, 0, .null, false),
  (33, .getfield 15, 20, 5, 1, .null, false),
  (36, .iload_n 1, 21, 1, 0, .null, false),
  (37, .aaload, 22, 0, 0, .null, false),
  (38, .invokevirtual 126, 23, 27, 2, .null, false),
  (41, .bipush (-9), 24, 0, 0, .int (-9), false),
  (43, .if_icmp .eq 6, 25, 27, 0, .null, false),
  (46, .bipush (-4), 26, 0, 0, .int (-4), false),
  (48, .ireturn, 0, 0, 0, .null, false),
  (49, .aload_n 0, 28, 0, 0, .null, false),
  (50, .getfield 21, 29, 5, 2, .null, false),
  (53, .aload_n 0, 30, 0, 0, .null, false),
  (54, .getfield 32, 31, 5, 4, .null, false),
  (57, .getfield 130, 32, 2, 0, .null, false)]
def q_X5_court_1 : List mm_N := [(60, .invokevirtual 133, 33, 14, 2, .null, false),
  (63, .iconst 0, 34, 0, 0, .int 0, false),
  (64, .istore_n 2, 35, 2, 0, .null, false),
  (65, .iload_n 2, 36, 2, 0, .null, true),
  (66, .iconst 3, 37, 0, 0, .int 3, false),
  (67, .if_icmp .ge 19, 38, 46, 0, .null, false),
  (70, .aload_n 0, 39, 0, 0, .null, false),
  (71, .getfield 25, 40, 5, 3, .null, false),
  (74, .iload_n 2, 41, 2, 0, .null, false),
  (75, .aaload, 42, 0, 0, .null, false),
  (76, .iconst 0, 43, 0, 0, .int 0, false),
  (77, .invokevirtual 137, 44, 13, 2, .null, false),
  (80, .iinc 2 1, 45, 2, 0, .int 1, false),
  (83, .goto (-18), 0, 35, 0, .null, false),
  (86, .aload_n 0, 47, 0, 0, .null, false),
  (87, .getfield 21, 48, 5, 2, .null, false),
  (90, .getfield 140, 49, 1, 6, .null, false),
  (93, .ireturn, 0, 0, 0, .null, false)]
def q_X5_court : List (List mm_N) := [q_X5_court_0, q_X5_court_1]
def q_X5_ruling_0 : List mm_N := [(0, .aload_n 0, 1, 0, 0, .null, false),
  (1, .getfield 21, 2, 5, 2, .null, false),
  (4, .iload_n 1, 3, 1, 0, .null, false),
  (5, .invokevirtual 141, 4, 8, 2, .null, false),
  (8, .ifCond .eq 12, 5, 9, 0, .null, false),
  (11, .iload_n 2, 6, 2, 0, .null, false),
  (12, .bipush 7, 7, 0, 0, .int 7, false),
  (14, .invokestatic 78, 8, 100, 2, .null, false),
  (17, .ifCond .ne 5, 9, 11, 0, .null, false),
  (20, .iconst (-1), 10, 0, 0, .int (-1), true),
  (21, .ireturn, 0, 0, 0, .null, false),
  (22, .aload_n 0, 12, 0, 0, .null, false),
  (23, .aload_n 0, 13, 0, 0, .null, false),
  (24, .getfield 21, 14, 5, 2, .null, false),
  (27, .iload_n 1, 15, 1, 0, .null, false),
  (28, .iload_n 2, 16, 2, 0, .null, false),
  (29, .invokevirtual 145, 17, 15, 3, .null, false),
  (32, .invokevirtual 90, 18, 105, 2, .null, false),
  (35, .ireturn, 0, 0, 0, .null, false)]
def q_X5_ruling : List (List mm_N) := [q_X5_ruling_0]
def q_X5_mark_0 : List mm_N := [(0, .aload_n 0, 1, 0, 0, .null, false),
  (1, .getfield 21, 2, 5, 2, .null, false),
  (4, .iload_n 1, 3, 1, 0, .null, false),
  (5, .invokevirtual 141, 4, 8, 2, .null, false),
  (8, .ifCond .eq 16, 5, 11, 0, .null, false),
  (11, .iload_n 2, 6, 2, 0, .null, false),
  (12, .ifCond .eq 12, 7, 11, 0, .null, false),
  (15, .iload_n 2, 8, 2, 0, .null, false),
  (16, .bipush 6, 9, 0, 0, .int 6, false),
  (18, .invokestatic 78, 10, 100, 2, .null, false),
  (21, .ifCond .ne 5, 11, 13, 0, .null, false),
  (24, .iconst (-1), 12, 0, 0, .int (-1), true),
  (25, .ireturn, 0, 0, 0, .null, false),
  (26, .aload_n 0, 14, 0, 0, .null, false),
  (27, .getfield 21, 15, 5, 2, .null, false),
  (30, .getfield 148, 16, 1, 0, .null, false),
  (33, .iload_n 1, 17, 1, 0, .null, false),
  (34, .iaload, 18, 0, 0, .null, false),
  (35, .iload_n 2, 19, 2, 0, .null, false),
  (36, .invokestatic 151, 20, 102, 2, .null, false),
  (39, .ifCond .ne 9, 21, 25, 0, .null, false),
  (42, .aload_n 0, 22, 0, 0, .null, false),
  (43, .iconst 3, 23, 0, 0, .int 3, false),
  (44, .invokevirtual 101, 24, 104, 2, .null, false),
  (47, .ireturn, 0, 0, 0, .null, false),
  (48, .iload_n 2, 26, 2, 0, .null, false),
  (49, .tableswitch 72 1 4 #[31, 40, 50, 60], 0, 0, 50, .null, false),
  (80, .aload_n 0, 28, 0, 0, .null, false),
  (81, .getfield 21, 29, 5, 2, .null, false),
  (84, .iload_n 1, 30, 1, 0, .null, false),
  (85, .invokevirtual 154, 31, 17, 2, .null, false),
  (88, .ireturn, 0, 0, 0, .null, false)]
def q_X5_mark_1 : List mm_N := [(89, .aload_n 0, 33, 0, 0, .null, false),
  (90, .getfield 21, 34, 5, 2, .null, false),
  (93, .iload_n 1, 35, 1, 0, .null, false),
  (94, .iconst (-1), 36, 0, 0, .int (-1), false),
  (95, .invokevirtual 157, 37, 16, 3, .null, false),
  (98, .ireturn, 0, 0, 0, .null, false),
  (99, .aload_n 0, 39, 0, 0, .null, false),
  (100, .getfield 21, 40, 5, 2, .null, false),
  (103, .iload_n 1, 41, 1, 0, .null, false),
  (104, .iconst 1, 42, 0, 0, .int 1, false),
  (105, .invokevirtual 157, 43, 16, 3, .null, false),
  (108, .ireturn, 0, 0, 0, .null, false),
  (109, .aload_n 0, 45, 0, 0, .null, false),
  (110, .getfield 21, 46, 5, 2, .null, false),
  (113, .iload_n 1, 47, 1, 0, .null, false),
  (114, .invokevirtual 160, 48, 19, 2, .null, false),
  (117, .invokestatic 163, 49, 208, 1, .null, false),
  (120, .ireturn, 0, 0, 0, .null, false),
  (121, .aload_n 0, 51, 0, 0, .null, false),
  (122, .iconst 0, 52, 0, 0, .int 0, false),
  (123, .invokevirtual 168, 53, 109, 2, .null, false),
  (126, .aload_n 0, 54, 0, 0, .null, false),
  (127, .getfield 46, 55, 5, 6, .null, false),
  (130, .iload_n 1, 56, 1, 0, .null, false),
  (131, .invokevirtual 171, 57, 49, 2, .null, false),
  (134, .ireturn, 0, 0, 0, .null, false)]
def q_X5_mark : List (List mm_N) := [q_X5_mark_0, q_X5_mark_1]
def q_X5_reverse_0 : List mm_N := [(0, .aload_n 0, 1, 0, 0, .null, false),
  (1, .getfield 21, 2, 5, 2, .null, false),
  (4, .iload_n 1, 3, 1, 0, .null, false),
  (5, .invokevirtual 141, 4, 8, 2, .null, false),
  (8, .ifCond .eq 11, 5, 9, 0, .null, false),
  (11, .iload_n 2, 6, 2, 0, .null, false),
  (12, .iconst 2, 7, 0, 0, .int 2, false),
  (13, .invokestatic 78, 8, 100, 2, .null, false),
  (16, .ifCond .ne 5, 9, 11, 0, .null, false),
  (19, .iconst (-1), 10, 0, 0, .int (-1), true),
  (20, .ireturn, 0, 0, 0, .null, false),
  (21, .aload_n 0, 12, 0, 0, .null, false),
  (22, .getfield 21, 13, 5, 2, .null, false),
  (25, .getfield 174, 14, 1, 2, .null, false),
  (28, .iload_n 1, 15, 1, 0, .null, false),
  (29, .iaload, 16, 0, 0, .null, false),
  (30, .istore_n 3, 17, 3, 0, .null, false),
  (31, .aload_n 0, 18, 0, 0, .null, false),
  (32, .getfield 21, 19, 5, 2, .null, false),
  (35, .getfield 174, 20, 1, 2, .null, false),
  (38, .iload_n 1, 21, 1, 0, .null, false),
  (39, .iload_n 2, 22, 2, 0, .null, false),
  (40, .iastore, 23, 0, 0, .null, false),
  (41, .iload_n 3, 24, 3, 0, .null, false),
  (42, .ireturn, 0, 0, 0, .null, false)]
def q_X5_reverse : List (List mm_N) := [q_X5_reverse_0]
def q_X5_marks_0 : List mm_N := [(0, .aload_n 0, 1, 0, 0, .null, false),
  (1, .getfield 21, 2, 5, 2, .null, false),
  (4, .iload_n 1, 3, 1, 0, .null, false),
  (5, .invokevirtual 141, 4, 8, 2, .null, false),
  (8, .ifCond .eq 12, 5, 9, 0, .null, false),
  (11, .iload_n 2, 6, 2, 0, .null, false),
  (12, .bipush 32, 7, 0, 0, .int 32, false),
  (14, .invokestatic 78, 8, 100, 2, .null, false),
  (17, .ifCond .ne 5, 9, 11, 0, .null, false),
  (20, .iconst (-1), 10, 0, 0, .int (-1), true),
  (21, .ireturn, 0, 0, 0, .null, false),
  (22, .aload_n 0, 12, 0, 0, .null, false),
  (23, .getfield 21, 13, 5, 2, .null, false),
  (26, .getfield 177, 14, 1, 5, .null, false),
  (29, .iload_n 1, 15, 1, 0, .null, false),
  (30, .iaload, 16, 0, 0, .null, false),
  (31, .istore_n 3, 17, 3, 0, .null, false),
  (32, .aload_n 0, 18, 0, 0, .null, false),
  (33, .getfield 21, 19, 5, 2, .null, false),
  (36, .getfield 177, 20, 1, 5, .null, false),
  (39, .iload_n 1, 21, 1, 0, .null, false),
  (40, .iload_n 2, 22, 2, 0, .null, false),
  (41, .iastore, 23, 0, 0, .null, false),
  (42, .iload_n 3, 24, 3, 0, .null, false),
  (43, .ireturn, 0, 0, 0, .null, false)]
def q_X5_marks : List (List mm_N) := [q_X5_marks_0]
def q_X5_file_0 : List mm_N := [(0, .iload_n 1, 1, 1, 0, .null, false),
  (1, .bipush 6, 2, 0, 0, .int 6, false),
  (3, .invokestatic 78, 3, 100, 2, .null, false),
  (6, .ifCond .eq 20, 4, 12, 0, .null, false),
  (9, .iload_n 2, 5, 2, 0, .null, false),
  (10, .bipush 10, 6, 0, 0, .int 10, false),
  (12, .invokestatic 78, 7, 100, 2, .null, false),
  (15, .ifCond .eq 11, 8, 12, 0, .null, false),
  (18, .iload_n 3, 9, 3, 0, .null, false),
  (19, .iconst 2, 10, 0, 0, .int 2, false),
  (20, .invokestatic 78, 11, 100, 2, .null, false),
  (23, .ifCond .ne 5, 12, 14, 0, .null, false),
  (26, .iconst (-1), 13, 0, 0, .int (-1), true),
  (27, .ireturn, 0, 0, 0, .null, false),
  (28, .iload 4, 15, 4, 0, .null, false),
  (30, .bipush (-9), 16, 0, 0, .int (-9), false),
  (32, .if_icmp .ne 12, 17, 21, 0, .null, false),
  (35, .iload 5, 18, 5, 0, .null, false),
  (37, .ifCond .ne 7, 19, 21, 0, .null, false),
  (40, .iconst 1, 20, 0, 0, .int 1, false),
  (41, .goto 4, 0, 22, 0, .null, false),
  (44, .iconst 0, 22, 0, 0, .int 0, true),
  (45, .istore 6, 23, 6, 0, .null, true),
  (47, .aload_n 0, 24, 0, 0, .null, false),
  (48, .getfield 21, 25, 5, 2, .null, false),
  (51, .iload 4, 26, 4, 0, .null, false),
  (53, .iload_n 2, 27, 2, 0, .null, false),
  (54, .invokevirtual 180, 28, 10, 3, .null, false),
  (57, .ifCond .eq 19, 29, 37, 0, .null, false),
  (60, .iload 5, 30, 5, 0, .null, false),
  (62, .iconst 1, 31, 0, 0, .int 1, false),
  (63, .if_icmp .eq 9, 32, 35, 0, .null, false)]
def q_X5_file_1 : List mm_N := [(66, .iload 5, 33, 5, 0, .null, false),
  (68, .iconst (-1), 34, 0, 0, .int (-1), false),
  (69, .if_icmp .ne 7, 35, 37, 0, .null, false),
  (72, .iconst 1, 36, 0, 0, .int 1, true),
  (73, .goto 4, 0, 38, 0, .null, false),
  (76, .iconst 0, 38, 0, 0, .int 0, true),
  (77, .istore 7, 39, 7, 0, .null, true),
  (79, .iload 6, 40, 6, 0, .null, false),
  (81, .ifCond .ne 10, 41, 45, 0, .null, false),
  (84, .iload 7, 42, 7, 0, .null, false),
  (86, .ifCond .ne 5, 43, 45, 0, .null, false),
  (89, .iconst (-1), 44, 0, 0, .int (-1), false),
  (90, .ireturn, 0, 0, 0, .null, false),
  (91, .aload_n 0, 46, 0, 0, .null, true),
  (92, .getfield 21, 47, 5, 2, .null, false),
  (95, .getfield 140, 48, 1, 6, .null, false),
  (98, .bipush 9, 49, 0, 0, .int 9, false),
  (100, .if_icmp .lt 6, 50, 52, 0, .null, false),
  (103, .bipush (-2), 51, 0, 0, .int (-2), false),
  (105, .ireturn, 0, 0, 0, .null, false),
  (106, .aload_n 0, 53, 0, 0, .null, false),
  (107, .getfield 21, 54, 5, 2, .null, false),
  (110, .iload_n 1, 55, 1, 0, .null, false),
  (111, .iload_n 2, 56, 2, 0, .null, false),
  (112, .iload_n 3, 57, 3, 0, .null, false),
  (113, .iload 4, 58, 4, 0, .null, false),
  (115, .iload 5, 59, 5, 0, .null, false),
  (117, .iconst 0, 60, 0, 0, .int 0, false),
  (118, .invokevirtual 183, 61, 12, 7, .null, false),
  (121, .aload_n 0, 62, 0, 0, .null, false),
  (122, .getfield 21, 63, 5, 2, .null, false),
  (125, .getfield 140, 64, 1, 6, .null, false)]
def q_X5_file_2 : List mm_N := [(128, .iconst 1, 65, 0, 0, .int 1, false),
  (129, .isub, 66, 0, 0, .null, false),
  (130, .ireturn, 0, 0, 0, .null, false)]
def q_X5_file : List (List mm_N) := [q_X5_file_0, q_X5_file_1, q_X5_file_2]
def q_X5_strike_0 : List mm_N := [(0, .iload_n 1, 1, 1, 0, .null, false),
  (1, .ifCond .lt 14, 2, 7, 0, .null, false),
  (4, .iload_n 1, 3, 1, 0, .null, false),
  (5, .aload_n 0, 4, 0, 0, .null, false),
  (6, .getfield 21, 5, 5, 2, .null, false),
  (9, .getfield 140, 6, 1, 6, .null, false),
  (12, .if_icmp .le 5, 7, 9, 0, .null, false),
  (15, .iconst (-1), 8, 0, 0, .int (-1), true),
  (16, .ireturn, 0, 0, 0, .null, false),
  (17, .aload_n 0, 10, 0, 0, .null, false),
  (18, .getfield 21, 11, 5, 2, .null, false),
  (21, .getfield 140, 12, 1, 6, .null, false),
  (24, .iload_n 1, 13, 1, 0, .null, false),
  (25, .isub, 14, 0, 0, .null, false),
  (26, .istore_n 2, 15, 2, 0, .null, false),
  (27, .aload_n 0, 16, 0, 0, .null, false),
  (28, .getfield 21, 17, 5, 2, .null, false),
  (31, .iload_n 1, 18, 1, 0, .null, false),
  (32, .invokevirtual 137, 19, 13, 2, .null, false),
  (35, .iload_n 2, 20, 2, 0, .null, false),
  (36, .ireturn, 0, 0, 0, .null, false)]
def q_X5_strike : List (List mm_N) := [q_X5_strike_0]
def q_X5_keep_0 : List mm_N := [(0, .iload_n 1, 1, 1, 0, .null, false),
  (1, .iconst 3, 2, 0, 0, .int 3, false),
  (2, .invokestatic 78, 3, 100, 2, .null, false),
  (5, .ifCond .ne 5, 4, 6, 0, .null, false),
  (8, .iconst (-1), 5, 0, 0, .int (-1), false),
  (9, .ireturn, 0, 0, 0, .null, false),
  (10, .aload_n 0, 7, 0, 0, .null, false),
  (11, .getfield 21, 8, 5, 2, .null, false),
  (14, .getfield 140, 9, 1, 6, .null, false),
  (17, .ifCond .ne 6, 10, 12, 0, .null, false),
  (20, .bipush (-4), 11, 0, 0, .int (-4), false),
  (22, .ireturn, 0, 0, 0, .null, false),
  (23, .aload_n 0, 13, 0, 0, .null, false),
  (24, .getfield 25, 14, 5, 3, .null, false),
  (27, .iload_n 1, 15, 1, 0, .null, false),
  (28, .aaload, 16, 0, 0, .null, false),
  (29, .aload_n 0, 17, 0, 0, .null, false),
  (30, .getfield 21, 18, 5, 2, .null, false),
  (33, .invokevirtual 133, 19, 14, 2, .null, false),
  (36, .aload_n 0, 20, 0, 0, .null, false),
  (37, .getfield 21, 21, 5, 2, .null, false),
  (40, .getfield 140, 22, 1, 6, .null, false),
  (43, .ireturn, 0, 0, 0, .null, false)]
def q_X5_keep : List (List mm_N) := [q_X5_keep_0]
def q_X5_on_0 : List mm_N := [(0, .iload_n 1, 1, 1, 0, .null, false),
  (1, .iconst 3, 2, 0, 0, .int 3, false),
  (2, .invokestatic 78, 3, 100, 2, .null, false),
  (5, .ifCond .ne 5, 4, 6, 0, .null, false),
  (8, .iconst (-1), 5, 0, 0, .int (-1), false),
  (9, .ireturn, 0, 0, 0, .null, false),
  (10, .aload_n 0, 7, 0, 0, .null, false),
  (11, .iload_n 1, 8, 1, 0, .null, false),
  (12, .invokevirtual 187, 9, 108, 2, .null, false),
  (15, .ifCond .ne 9, 10, 14, 0, .null, false),
  (18, .aload_n 0, 11, 0, 0, .null, false),
  (19, .iconst 1, 12, 0, 0, .int 1, false),
  (20, .invokevirtual 101, 13, 104, 2, .null, false),
  (23, .ireturn, 0, 0, 0, .null, false),
  (24, .aload_n 0, 15, 0, 0, .null, false),
  (25, .getfield 21, 16, 5, 2, .null, false),
  (28, .aload_n 0, 17, 0, 0, .null, false),
  (29, .getfield 25, 18, 5, 3, .null, false),
  (32, .iload_n 1, 19, 1, 0, .null, false),
  (33, .aaload, 20, 0, 0, .null, false),
  (34, .invokevirtual 133, 21, 14, 2, .null, false),
  (37, .aload_n 0, 22, 0, 0, .null, false),
  (38, .getfield 21, 23, 5, 2, .null, false),
  (41, .getfield 140, 24, 1, 6, .null, false),
  (44, .ireturn, 0, 0, 0, .null, false)]
def q_X5_on : List (List mm_N) := [q_X5_on_0]
def q_X5_due_0 : List mm_N := [(0, .iload_n 1, 1, 1, 0, .null, false),
  (1, .iconst 1, 2, 0, 0, .int 1, false),
  (2, .aload_n 0, 3, 0, 0, .null, false),
  (3, .getfield 21, 4, 5, 2, .null, false),
  (6, .getfield 140, 5, 1, 6, .null, false),
  (9, .ishl, 6, 0, 0, .null, false),
  (10, .invokestatic 78, 7, 100, 2, .null, false),
  (13, .ifCond .ne 5, 8, 10, 0, .null, false),
  (16, .iconst (-1), 9, 0, 0, .int (-1), false),
  (17, .ireturn, 0, 0, 0, .null, false),
  (18, .aload_n 0, 11, 0, 0, .null, false),
  (19, .getfield 39, 12, 5, 5, .null, false),
  (22, .aload_n 0, 13, 0, 0, .null, false),
  (23, .getfield 21, 14, 5, 2, .null, false),
  (26, .invokevirtual 190, 15, 1, 2, .null, false),
  (29, .iconst 0, 16, 0, 0, .int 0, false),
  (30, .istore_n 2, 17, 2, 0, .null, false),
  (31, .iconst 0, 18, 0, 0, .int 0, false),
  (32, .istore_n 3, 19, 3, 0, .null, false),
  (33, .iload_n 3, 20, 3, 0, .null, true),
  (34, .aload_n 0, 21, 0, 0, .null, false),
  (35, .getfield 21, 22, 5, 2, .null, false),
  (38, .getfield 140, 23, 1, 6, .null, false),
  (41, .if_icmp .ge 27, 24, 38, 0, .null, false),
  (44, .aload_n 0, 25, 0, 0, .null, false),
  (45, .getfield 39, 26, 5, 5, .null, false),
  (48, .iload_n 3, 27, 3, 0, .null, false),
  (49, .iload_n 1, 28, 1, 0, .null, false),
  (50, .invokevirtual 193, 29, 4, 3, .null, false),
  (53, .ifCond .eq 9, 30, 36, 0, .null, false),
  (56, .iload_n 2, 31, 2, 0, .null, false),
  (57, .iconst 1, 32, 0, 0, .int 1, false)]
def q_X5_due_1 : List mm_N := [(58, .iload_n 3, 33, 3, 0, .null, false),
  (59, .ishl, 34, 0, 0, .null, false),
  (60, .ior, 35, 0, 0, .null, false),
  (61, .istore_n 2, 36, 2, 0, .null, false),
  (62, .iinc 3 1, 37, 3, 0, .int 1, true),
  (65, .goto (-32), 0, 19, 0, .null, false),
  (68, .iload_n 2, 39, 2, 0, .null, false),
  (69, .ireturn, 0, 0, 0, .null, false)]
def q_X5_due : List (List mm_N) := [q_X5_due_0, q_X5_due_1]
def q_X5_ways_0 : List mm_N := [(0, .aload_n 0, 1, 0, 0, .null, false),
  (1, .iconst 0, 2, 0, 0, .int 0, false),
  (2, .invokevirtual 168, 3, 109, 2, .null, false),
  (5, .aload_n 0, 4, 0, 0, .null, false),
  (6, .aload_n 0, 5, 0, 0, .null, false),
  (7, .getfield 46, 6, 5, 6, .null, false),
  (10, .invokevirtual 196, 7, 46, 1, .null, false),
  (13, .putfield 61, 8, 5, 10, .null, false),
  (16, .aload_n 0, 9, 0, 0, .null, false),
  (17, .getfield 46, 10, 5, 6, .null, false),
  (20, .getfield 200, 11, 4, 1, .null, false),
  (23, .ireturn, 0, 0, 0, .null, false)]
def q_X5_ways : List (List mm_N) := [q_X5_ways_0]
def q_X5_nth_0 : List mm_N := [(0, .iload_n 1, 1, 1, 0, .null, false),
  (1, .ifCond .ge 5, 2, 4, 0, .null, false),
  (4, .iconst (-1), 3, 0, 0, .int (-1), false),
  (5, .ireturn, 0, 0, 0, .null, false),
  (6, .aload_n 0, 5, 0, 0, .null, false),
  (7, .iconst 0, 6, 0, 0, .int 0, false),
  (8, .invokevirtual 168, 7, 109, 2, .null, false),
  (11, .iload_n 1, 8, 1, 0, .null, false),
  (12, .aload_n 0, 9, 0, 0, .null, false),
  (13, .getfield 46, 10, 5, 6, .null, false),
  (16, .getfield 200, 11, 4, 1, .null, false),
  (19, .if_icmp .ge 15, 12, 18, 0, .null, false),
  (22, .aload_n 0, 13, 0, 0, .null, false),
  (23, .getfield 46, 14, 5, 6, .null, false),
  (26, .getfield 203, 15, 4, 0, .null, false),
  (29, .iload_n 1, 16, 1, 0, .null, false),
  (30, .iaload, 17, 0, 0, .null, false),
  (31, .goto 8, 0, 21, 0, .null, false),
  (34, .aload_n 0, 19, 0, 0, .null, false),
  (35, .iconst 4, 20, 0, 0, .int 4, false),
  (36, .invokevirtual 101, 21, 104, 2, .null, false),
  (39, .ireturn, 0, 0, 0, .null, true)]
def q_X5_nth : List (List mm_N) := [q_X5_nth_0]
def q_X5_sure_0 : List mm_N := [(0, .aload_n 0, 1, 0, 0, .null, false),
  (1, .iconst 0, 2, 0, 0, .int 0, false),
  (2, .invokevirtual 168, 3, 109, 2, .null, false),
  (5, .aload_n 0, 4, 0, 0, .null, false),
  (6, .aload_n 0, 5, 0, 0, .null, false),
  (7, .getfield 46, 6, 5, 6, .null, false),
  (10, .invokevirtual 206, 7, 48, 1, .null, false),
  (13, .putfield 61, 8, 5, 10, .null, false),
  (16, .aload_n 0, 9, 0, 0, .null, false),
  (17, .getfield 46, 10, 5, 6, .null, false),
  (20, .invokevirtual 209, 11, 47, 1, .null, false),
  (23, .ireturn, 0, 0, 0, .null, false)]
def q_X5_sure : List (List mm_N) := [q_X5_sure_0]
def q_X5_odds_0 : List mm_N := [(0, .aload_n 0, 1, 0, 0, .null, false),
  (1, .getfield 21, 2, 5, 2, .null, false),
  (4, .iload_n 1, 3, 1, 0, .null, false),
  (5, .invokevirtual 141, 4, 8, 2, .null, false),
  (8, .ifCond .ne 5, 5, 7, 0, .null, false),
  (11, .iconst (-1), 6, 0, 0, .int (-1), false),
  (12, .ireturn, 0, 0, 0, .null, false),
  (13, .aload_n 0, 8, 0, 0, .null, false),
  (14, .iconst 0, 9, 0, 0, .int 0, false),
  (15, .invokevirtual 168, 10, 109, 2, .null, false),
  (18, .aload_n 0, 11, 0, 0, .null, false),
  (19, .getfield 46, 12, 5, 6, .null, false),
  (22, .getfield 200, 13, 4, 1, .null, false),
  (25, .ifCond .ne 9, 14, 18, 0, .null, false),
  (28, .aload_n 0, 15, 0, 0, .null, false),
  (29, .iconst 4, 16, 0, 0, .int 4, false),
  (30, .invokevirtual 101, 17, 104, 2, .null, false),
  (33, .ireturn, 0, 0, 0, .null, false),
  (34, .aload_n 0, 19, 0, 0, .null, false),
  (35, .getfield 46, 20, 5, 6, .null, false),
  (38, .iload_n 1, 21, 1, 0, .null, false),
  (39, .invokevirtual 171, 22, 49, 2, .null, false),
  (42, .istore_n 2, 23, 2, 0, .null, false),
  (43, .iload_n 2, 24, 2, 0, .null, false),
  (44, .aload_n 0, 25, 0, 0, .null, false),
  (45, .getfield 46, 26, 5, 6, .null, false),
  (48, .getfield 200, 27, 4, 1, .null, false),
  (51, .invokestatic 212, 28, 103, 2, .null, false),
  (54, .istore_n 3, 29, 3, 0, .null, false),
  (55, .aload_n 0, 30, 0, 0, .null, false),
  (56, .iload_n 2, 31, 2, 0, .null, false),
  (57, .iload_n 3, 32, 3, 0, .null, false)]
def q_X5_odds_1 : List mm_N := [(58, .idiv, 33, 0, 0, .null, false),
  (59, .i2l, 34, 0, 0, .null, false),
  (60, .putfield 64, 35, 5, 11, .null, false),
  (63, .aload_n 0, 36, 0, 0, .null, false),
  (64, .aload_n 0, 37, 0, 0, .null, false),
  (65, .getfield 46, 38, 5, 6, .null, false),
  (68, .getfield 200, 39, 4, 1, .null, false),
  (71, .iload_n 3, 40, 3, 0, .null, false),
  (72, .idiv, 41, 0, 0, .null, false),
  (73, .i2l, 42, 0, 0, .null, false),
  (74, .putfield 68, 43, 5, 12, .null, false),
  (77, .iconst 1, 44, 0, 0, .int 1, false),
  (78, .ireturn, 0, 0, 0, .null, false)]
def q_X5_odds : List (List mm_N) := [q_X5_odds_0, q_X5_odds_1]
def q_X5_together_0 : List mm_N := [(0, .aload_n 0, 1, 0, 0, .null, false),
  (1, .getfield 21, 2, 5, 2, .null, false),
  (4, .iload_n 1, 3, 1, 0, .null, false),
  (5, .invokevirtual 141, 4, 8, 2, .null, false),
  (8, .ifCond .ne 5, 5, 7, 0, .null, false),
  (11, .iconst (-1), 6, 0, 0, .int (-1), false),
  (12, .ireturn, 0, 0, 0, .null, false),
  (13, .aload_n 0, 8, 0, 0, .null, false),
  (14, .iconst 0, 9, 0, 0, .int 0, false),
  (15, .invokevirtual 168, 10, 109, 2, .null, false),
  (18, .aload_n 0, 11, 0, 0, .null, false),
  (19, .getfield 46, 12, 5, 6, .null, false),
  (22, .getfield 200, 13, 4, 1, .null, false),
  (25, .ifCond .ne 9, 14, 18, 0, .null, false),
  (28, .aload_n 0, 15, 0, 0, .null, false),
  (29, .iconst 4, 16, 0, 0, .int 4, false),
  (30, .invokevirtual 101, 17, 104, 2, .null, false),
  (33, .ireturn, 0, 0, 0, .null, false),
  (34, .aload_n 0, 19, 0, 0, .null, false),
  (35, .getfield 21, 20, 5, 2, .null, false),
  (38, .invokevirtual 215, 21, 9, 1, .null, false),
  (41, .istore_n 2, 22, 2, 0, .null, false),
  (42, .iconst 0, 23, 0, 0, .int 0, false),
  (43, .istore_n 3, 24, 3, 0, .null, false),
  (44, .iload_n 3, 25, 3, 0, .null, true),
  (45, .aload_n 0, 26, 0, 0, .null, false),
  (46, .getfield 46, 27, 5, 6, .null, false),
  (49, .getfield 200, 28, 4, 1, .null, false),
  (52, .if_icmp .ge 41, 29, 49, 0, .null, false),
  (55, .aload_n 0, 30, 0, 0, .null, false),
  (56, .getfield 46, 31, 5, 6, .null, false),
  (59, .getfield 203, 32, 4, 0, .null, false)]
def q_X5_together_1 : List mm_N := [(62, .iload_n 3, 33, 3, 0, .null, false),
  (63, .iaload, 34, 0, 0, .null, false),
  (64, .istore 4, 35, 4, 0, .null, false),
  (66, .iload_n 2, 36, 2, 0, .null, false),
  (67, .iload 4, 37, 4, 0, .null, false),
  (69, .iload_n 1, 38, 1, 0, .null, false),
  (70, .invokestatic 218, 39, 101, 2, .null, false),
  (73, .ifCond .eq 8, 40, 42, 0, .null, false),
  (76, .iload 4, 41, 4, 0, .null, false),
  (78, .goto 7, 0, 45, 0, .null, false),
  (81, .iload 4, 43, 4, 0, .null, false),
  (83, .iconst (-1), 44, 0, 0, .int (-1), false),
  (84, .ixor, 45, 0, 0, .null, false),
  (85, .iand, 46, 0, 0, .null, true),
  (86, .istore_n 2, 47, 2, 0, .null, false),
  (87, .iinc 3 1, 48, 3, 0, .int 1, false),
  (90, .goto (-46), 0, 24, 0, .null, false),
  (93, .iload_n 2, 50, 2, 0, .null, false),
  (94, .ireturn, 0, 0, 0, .null, false)]
def q_X5_together : List (List mm_N) := [q_X5_together_0, q_X5_together_1]
def q_X5_till_0 : List mm_N := [(0, .iload_n 1, 1, 1, 0, .null, false),
  (1, .bipush 10, 2, 0, 0, .int 10, false),
  (3, .invokestatic 78, 3, 100, 2, .null, false),
  (6, .ifCond .ne 5, 4, 6, 0, .null, false),
  (9, .iconst (-1), 5, 0, 0, .int (-1), false),
  (10, .ireturn, 0, 0, 0, .null, false),
  (11, .aload_n 0, 7, 0, 0, .null, false),
  (12, .aload_n 0, 8, 0, 0, .null, false),
  (13, .getfield 21, 9, 5, 2, .null, false),
  (16, .iload_n 1, 10, 1, 0, .null, false),
  (17, .invokevirtual 221, 11, 20, 2, .null, false),
  (20, .invokevirtual 168, 12, 109, 2, .null, false),
  (23, .aload_n 0, 13, 0, 0, .null, false),
  (24, .aload_n 0, 14, 0, 0, .null, false),
  (25, .getfield 46, 15, 5, 6, .null, false),
  (28, .invokevirtual 196, 16, 46, 1, .null, false),
  (31, .putfield 61, 17, 5, 10, .null, false),
  (34, .aload_n 0, 18, 0, 0, .null, false),
  (35, .getfield 46, 19, 5, 6, .null, false),
  (38, .getfield 200, 20, 4, 1, .null, false),
  (41, .ireturn, 0, 0, 0, .null, false)]
def q_X5_till : List (List mm_N) := [q_X5_till_0]
def q_X5_flips_0 : List mm_N := [(0, .aload_n 0, 1, 0, 0, .null, false),
  (1, .getfield 21, 2, 5, 2, .null, false),
  (4, .iload_n 1, 3, 1, 0, .null, false),
  (5, .invokevirtual 141, 4, 8, 2, .null, false),
  (8, .ifCond .ne 5, 5, 7, 0, .null, false),
  (11, .iconst (-1), 6, 0, 0, .int (-1), false),
  (12, .ireturn, 0, 0, 0, .null, false),
  (13, .iconst 0, 8, 0, 0, .int 0, false),
  (14, .istore_n 2, 9, 2, 0, .null, false),
  (15, .iconst 0, 10, 0, 0, .int 0, false),
  (16, .istore_n 3, 11, 3, 0, .null, false),
  (17, .aload_n 0, 12, 0, 0, .null, false),
  (18, .getfield 21, 13, 5, 2, .null, false),
  (21, .getfield 224, 14, 1, 1, .null, false),
  (24, .iload_n 1, 15, 1, 0, .null, false),
  (25, .iaload, 16, 0, 0, .null, false),
  (26, .istore 4, 17, 4, 0, .null, false),
  (28, .iload 4, 18, 4, 0, .null, true),
  (30, .bipush 10, 19, 0, 0, .int 10, false),
  (32, .if_icmp .ge 84, 20, 60, 0, .null, false),
  (35, .aload_n 0, 21, 0, 0, .null, false),
  (36, .aload_n 0, 22, 0, 0, .null, false),
  (37, .getfield 21, 23, 5, 2, .null, false),
  (40, .iload 4, 24, 4, 0, .null, false),
  (42, .invokevirtual 221, 25, 20, 2, .null, false),
  (45, .invokevirtual 168, 26, 109, 2, .null, false),
  (48, .aload_n 0, 27, 0, 0, .null, false),
  (49, .getfield 46, 28, 5, 6, .null, false),
  (52, .invokevirtual 209, 29, 47, 1, .null, false),
  (55, .iload_n 1, 30, 1, 0, .null, false),
  (56, .invokestatic 218, 31, 101, 2, .null, false),
  (59, .ifCond .eq 7, 32, 34, 0, .null, false)]
def q_X5_flips_1 : List mm_N := [(62, .iconst 1, 33, 0, 0, .int 1, false),
  (63, .goto 22, 0, 43, 0, .null, false),
  (66, .aload_n 0, 35, 0, 0, .null, false),
  (67, .getfield 46, 36, 5, 6, .null, false),
  (70, .invokevirtual 206, 37, 48, 1, .null, false),
  (73, .iload_n 1, 38, 1, 0, .null, false),
  (74, .invokestatic 218, 39, 101, 2, .null, false),
  (77, .ifCond .eq 7, 40, 42, 0, .null, false),
  (80, .iconst (-1), 41, 0, 0, .int (-1), false),
  (81, .goto 4, 0, 43, 0, .null, false),
  (84, .iconst 0, 43, 0, 0, .int 0, false),
  (85, .istore 5, 44, 5, 0, .null, true),
  (87, .iload 5, 45, 5, 0, .null, false),
  (89, .ifCond .eq 21, 46, 58, 0, .null, false),
  (92, .iload_n 2, 47, 2, 0, .null, false),
  (93, .iload 5, 48, 5, 0, .null, false),
  (95, .iload_n 3, 49, 3, 0, .null, false),
  (96, .ineg, 50, 0, 0, .null, false),
  (97, .if_icmp .ne 7, 51, 53, 0, .null, false),
  (100, .iconst 1, 52, 0, 0, .int 1, false),
  (101, .goto 4, 0, 54, 0, .null, false),
  (104, .iconst 0, 54, 0, 0, .int 0, false),
  (105, .iadd, 55, 0, 0, .null, true),
  (106, .istore_n 2, 56, 2, 0, .null, false),
  (107, .iload 5, 57, 5, 0, .null, false),
  (109, .istore_n 3, 58, 3, 0, .null, false),
  (110, .iinc 4 1, 59, 4, 0, .int 1, true),
  (113, .goto (-85), 0, 17, 0, .null, false),
  (116, .iload_n 2, 61, 2, 0, .null, false),
  (117, .ireturn, 0, 0, 0, .null, false)]
def q_X5_flips : List (List mm_N) := [q_X5_flips_0, q_X5_flips_1]
def q_X5_jam_0 : List mm_N := [(0, .iconst 0, 1, 0, 0, .int 0, false),
  (1, .istore_n 1, 2, 1, 0, .null, false),
  (2, .iload_n 1, 3, 1, 0, .null, true),
  (3, .bipush 10, 4, 0, 0, .int 10, false),
  (5, .if_icmp .ge 33, 5, 19, 0, .null, false),
  (8, .aload_n 0, 6, 0, 0, .null, false),
  (9, .aload_n 0, 7, 0, 0, .null, false),
  (10, .getfield 21, 8, 5, 2, .null, false),
  (13, .iload_n 1, 9, 1, 0, .null, false),
  (14, .invokevirtual 221, 10, 20, 2, .null, false),
  (17, .invokevirtual 168, 11, 109, 2, .null, false),
  (20, .aload_n 0, 12, 0, 0, .null, false),
  (21, .getfield 46, 13, 5, 6, .null, false),
  (24, .getfield 200, 14, 4, 1, .null, false),
  (27, .ifCond .ne 5, 15, 17, 0, .null, false),
  (30, .iload_n 1, 16, 1, 0, .null, false),
  (31, .ireturn, 0, 0, 0, .null, false),
  (32, .iinc 1 1, 18, 1, 0, .int 1, false),
  (35, .goto (-33), 0, 2, 0, .null, false),
  (38, .bipush (-9), 20, 0, 0, .int (-9), false),
  (40, .ireturn, 0, 0, 0, .null, false)]
def q_X5_jam : List (List mm_N) := [q_X5_jam_0]
def q_X5_fell_0 : List mm_N := [(0, .aload_n 0, 1, 0, 0, .null, false),
  (1, .getfield 21, 2, 5, 2, .null, false),
  (4, .iload_n 1, 3, 1, 0, .null, false),
  (5, .invokevirtual 141, 4, 8, 2, .null, false),
  (8, .ifCond .eq 22, 5, 15, 0, .null, false),
  (11, .iload_n 2, 6, 2, 0, .null, false),
  (12, .bipush 6, 7, 0, 0, .int 6, false),
  (14, .invokestatic 78, 8, 100, 2, .null, false),
  (17, .ifCond .eq 13, 9, 15, 0, .null, false),
  (20, .aload_n 0, 10, 0, 0, .null, false),
  (21, .iconst 0, 11, 0, 0, .int 0, false),
  (22, .iload_n 1, 12, 1, 0, .null, false),
  (23, .iload_n 2, 13, 2, 0, .null, false),
  (24, .invokevirtual 227, 14, 110, 4, .null, false),
  (27, .goto 4, 0, 16, 0, .null, false),
  (30, .iconst (-1), 16, 0, 0, .int (-1), true),
  (31, .ireturn, 0, 0, 0, .null, true)]
def q_X5_fell : List (List mm_N) := [q_X5_fell_0]
def q_X5_guard_0 : List mm_N := [(0, .aload_n 0, 1, 0, 0, .null, false),
  (1, .getfield 21, 2, 5, 2, .null, false),
  (4, .iload_n 1, 3, 1, 0, .null, false),
  (5, .invokevirtual 141, 4, 8, 2, .null, false),
  (8, .ifCond .eq 22, 5, 15, 0, .null, false),
  (11, .iload_n 2, 6, 2, 0, .null, false),
  (12, .bipush 6, 7, 0, 0, .int 6, false),
  (14, .invokestatic 78, 8, 100, 2, .null, false),
  (17, .ifCond .eq 13, 9, 15, 0, .null, false),
  (20, .aload_n 0, 10, 0, 0, .null, false),
  (21, .iconst 1, 11, 0, 0, .int 1, false),
  (22, .iload_n 1, 12, 1, 0, .null, false),
  (23, .iload_n 2, 13, 2, 0, .null, false),
  (24, .invokevirtual 227, 14, 110, 4, .null, false),
  (27, .goto 4, 0, 16, 0, .null, false),
  (30, .iconst (-1), 16, 0, 0, .int (-1), true),
  (31, .ireturn, 0, 0, 0, .null, true)]
def q_X5_guard : List (List mm_N) := [q_X5_guard_0]
def q_X5_settle_0 : List mm_N := [(0, .iload_n 1, 1, 1, 0, .null, false),
  (1, .bipush 6, 2, 0, 0, .int 6, false),
  (3, .invokestatic 78, 3, 100, 2, .null, false),
  (6, .ifCond .eq 14, 4, 10, 0, .null, false),
  (9, .aload_n 0, 5, 0, 0, .null, false),
  (10, .iconst 2, 6, 0, 0, .int 2, false),
  (11, .bipush (-9), 7, 0, 0, .int (-9), false),
  (13, .iload_n 1, 8, 1, 0, .null, false),
  (14, .invokevirtual 227, 9, 110, 4, .null, false),
  (17, .goto 4, 0, 11, 0, .null, false),
  (20, .iconst (-1), 11, 0, 0, .int (-1), false),
  (21, .ireturn, 0, 0, 0, .null, true)]
def q_X5_settle : List (List mm_N) := [q_X5_settle_0]
def q_X5_matter_0 : List mm_N := [(0, .aload_n 0, 1, 0, 0, .null, false),
  (1, .getfield 21, 2, 5, 2, .null, false),
  (4, .iload_n 1, 3, 1, 0, .null, false),
  (5, .invokevirtual 141, 4, 8, 2, .null, false),
  (8, .ifCond .ne 5, 5, 7, 0, .null, false),
  (11, .iconst (-1), 6, 0, 0, .int (-1), false),
  (12, .ireturn, 0, 0, 0, .null, false),
  (13, .aload_n 0, 8, 0, 0, .null, false),
  (14, .iconst 1, 9, 0, 0, .int 1, false),
  (15, .iload_n 1, 10, 1, 0, .null, false),
  (16, .ishl, 11, 0, 0, .null, false),
  (17, .invokevirtual 231, 12, 112, 2, .null, false),
  (20, .ireturn, 0, 0, 0, .null, false)]
def q_X5_matter : List (List mm_N) := [q_X5_matter_0]
def q_X5_judge_0 : List mm_N := [(0, .aload_n 0, 1, 0, 0, .null, false),
  (1, .getfield 21, 2, 5, 2, .null, false),
  (4, .getfield 140, 3, 1, 6, .null, false),
  (7, .ifCond .ne 6, 4, 6, 0, .null, false),
  (10, .bipush (-4), 5, 0, 0, .int (-4), false),
  (12, .ireturn, 0, 0, 0, .null, false),
  (13, .bipush (-9), 7, 0, 0, .int (-9), false),
  (15, .istore_n 1, 8, 1, 0, .null, false),
  (16, .iconst (-1), 9, 0, 0, .int (-1), false),
  (17, .istore_n 2, 10, 2, 0, .null, false),
  (18, .iconst 0, 11, 0, 0, .int 0, false),
  (19, .istore_n 3, 12, 3, 0, .null, false),
  (20, .iload_n 3, 13, 3, 0, .null, true),
  (21, .bipush 10, 14, 0, 0, .int 10, false),
  (23, .if_icmp .ge 47, 15, 37, 0, .null, false),
  (26, .aload_n 0, 16, 0, 0, .null, false),
  (27, .getfield 21, 17, 5, 2, .null, false),
  (30, .iload_n 3, 18, 3, 0, .null, false),
  (31, .invokevirtual 234, 19, 18, 2, .null, false),
  (34, .istore 4, 20, 4, 0, .null, false),
  (36, .iload 4, 21, 4, 0, .null, false),
  (38, .ifCond .ne 7, 22, 24, 0, .null, false),
  (41, .iconst (-1), 23, 0, 0, .int (-1), false),
  (42, .goto 9, 0, 27, 0, .null, false),
  (45, .aload_n 0, 25, 0, 0, .null, false),
  (46, .iload 4, 26, 4, 0, .null, false),
  (48, .invokevirtual 231, 27, 112, 2, .null, false),
  (51, .istore 5, 28, 5, 0, .null, true),
  (53, .iload 5, 29, 5, 0, .null, false),
  (55, .iload_n 2, 30, 2, 0, .null, false),
  (56, .if_icmp .le 8, 31, 35, 0, .null, false),
  (59, .iload_n 3, 32, 3, 0, .null, false)]
def q_X5_judge_1 : List mm_N := [(60, .istore_n 1, 33, 1, 0, .null, false),
  (61, .iload 5, 34, 5, 0, .null, false),
  (63, .istore_n 2, 35, 2, 0, .null, false),
  (64, .iinc 3 1, 36, 3, 0, .int 1, true),
  (67, .goto (-47), 0, 12, 0, .null, false),
  (70, .aload_n 0, 38, 0, 0, .null, false),
  (71, .iload_n 2, 39, 2, 0, .null, false),
  (72, .putfield 61, 40, 5, 10, .null, false),
  (75, .iload_n 1, 41, 1, 0, .null, false),
  (76, .ireturn, 0, 0, 0, .null, false)]
def q_X5_judge : List (List mm_N) := [q_X5_judge_0, q_X5_judge_1]
def q_X5_like_0 : List mm_N := [(0, .aload_n 0, 1, 0, 0, .null, false),
  (1, .getfield 21, 2, 5, 2, .null, false),
  (4, .iload_n 1, 3, 1, 0, .null, false),
  (5, .invokevirtual 141, 4, 8, 2, .null, false),
  (8, .ifCond .eq 12, 5, 9, 0, .null, false),
  (11, .iload_n 2, 6, 2, 0, .null, false),
  (12, .bipush 32, 7, 0, 0, .int 32, false),
  (14, .invokestatic 78, 8, 100, 2, .null, false),
  (17, .ifCond .ne 5, 9, 11, 0, .null, false),
  (20, .iconst (-1), 10, 0, 0, .int (-1), true),
  (21, .ireturn, 0, 0, 0, .null, false),
  (22, .aload_n 0, 12, 0, 0, .null, false),
  (23, .aload_n 0, 13, 0, 0, .null, false),
  (24, .getfield 21, 14, 5, 2, .null, false),
  (27, .iload_n 1, 15, 1, 0, .null, false),
  (28, .iload_n 2, 16, 2, 0, .null, false),
  (29, .bipush 31, 17, 0, 0, .int 31, false),
  (31, .invokevirtual 237, 18, 22, 4, .null, false),
  (34, .invokevirtual 90, 19, 105, 2, .null, false),
  (37, .ireturn, 0, 0, 0, .null, false)]
def q_X5_like : List (List mm_N) := [q_X5_like_0]
def q_X5_verdict_0 : List mm_N := [(0, .iload_n 1, 1, 1, 0, .null, false),
  (1, .bipush 32, 2, 0, 0, .int 32, false),
  (3, .invokestatic 78, 3, 100, 2, .null, false),
  (6, .ifCond .eq 19, 4, 12, 0, .null, false),
  (9, .iload_n 2, 5, 2, 0, .null, false),
  (10, .iconst 1, 6, 0, 0, .int 1, false),
  (11, .aload_n 0, 7, 0, 0, .null, false),
  (12, .getfield 21, 8, 5, 2, .null, false),
  (15, .getfield 140, 9, 1, 6, .null, false),
  (18, .ishl, 10, 0, 0, .null, false),
  (19, .invokestatic 78, 11, 100, 2, .null, false),
  (22, .ifCond .ne 5, 12, 14, 0, .null, false),
  (25, .iconst (-1), 13, 0, 0, .int (-1), true),
  (26, .ireturn, 0, 0, 0, .null, false),
  (27, .aload_n 0, 15, 0, 0, .null, false),
  (28, .getfield 21, 16, 5, 2, .null, false),
  (31, .iload_n 1, 17, 1, 0, .null, false),
  (32, .iload_n 2, 18, 2, 0, .null, false),
  (33, .bipush 31, 19, 0, 0, .int 31, false),
  (35, .invokevirtual 240, 20, 23, 4, .null, false),
  (38, .ireturn, 0, 0, 0, .null, false)]
def q_X5_verdict : List (List mm_N) := [q_X5_verdict_0]
def q_X5_surely_0 : List mm_N := [(0, .iload_n 1, 1, 1, 0, .null, false),
  (1, .bipush 32, 2, 0, 0, .int 32, false),
  (3, .invokestatic 78, 3, 100, 2, .null, false),
  (6, .ifCond .ne 5, 4, 6, 0, .null, false),
  (9, .iconst (-1), 5, 0, 0, .int (-1), false),
  (10, .ireturn, 0, 0, 0, .null, false),
  (11, .aload_n 0, 7, 0, 0, .null, false),
  (12, .iconst 0, 8, 0, 0, .int 0, false),
  (13, .invokevirtual 168, 9, 109, 2, .null, false),
  (16, .aload_n 0, 10, 0, 0, .null, false),
  (17, .getfield 46, 11, 5, 6, .null, false),
  (20, .getfield 200, 12, 4, 1, .null, false),
  (23, .ifCond .ne 9, 13, 17, 0, .null, false),
  (26, .aload_n 0, 14, 0, 0, .null, false),
  (27, .iconst 4, 15, 0, 0, .int 4, false),
  (28, .invokevirtual 101, 16, 104, 2, .null, false),
  (31, .ireturn, 0, 0, 0, .null, false),
  (32, .iconst 0, 18, 0, 0, .int 0, false),
  (33, .istore_n 2, 19, 2, 0, .null, false),
  (34, .iconst 0, 20, 0, 0, .int 0, false),
  (35, .istore_n 3, 21, 3, 0, .null, false),
  (36, .iload_n 3, 22, 3, 0, .null, true),
  (37, .aload_n 0, 23, 0, 0, .null, false),
  (38, .getfield 46, 24, 5, 6, .null, false),
  (41, .getfield 200, 25, 4, 1, .null, false),
  (44, .if_icmp .ge 31, 26, 41, 0, .null, false),
  (47, .iload_n 2, 27, 2, 0, .null, false),
  (48, .aload_n 0, 28, 0, 0, .null, false),
  (49, .getfield 21, 29, 5, 2, .null, false),
  (52, .iload_n 1, 30, 1, 0, .null, false),
  (53, .aload_n 0, 31, 0, 0, .null, false),
  (54, .getfield 46, 32, 5, 6, .null, false)]
def q_X5_surely_1 : List mm_N := [(57, .getfield 203, 33, 4, 0, .null, false),
  (60, .iload_n 3, 34, 3, 0, .null, false),
  (61, .iaload, 35, 0, 0, .null, false),
  (62, .bipush 31, 36, 0, 0, .int 31, false),
  (64, .invokevirtual 240, 37, 23, 4, .null, false),
  (67, .iadd, 38, 0, 0, .null, false),
  (68, .istore_n 2, 39, 2, 0, .null, false),
  (69, .iinc 3 1, 40, 3, 0, .int 1, false),
  (72, .goto (-36), 0, 21, 0, .null, false),
  (75, .aload_n 0, 42, 0, 0, .null, false),
  (76, .iload_n 2, 43, 2, 0, .null, false),
  (77, .putfield 61, 44, 5, 10, .null, false),
  (80, .iload_n 2, 45, 2, 0, .null, false),
  (81, .ifCond .ne 5, 46, 48, 0, .null, false),
  (84, .iconst 0, 47, 0, 0, .int 0, false),
  (85, .ireturn, 0, 0, 0, .null, false),
  (86, .iload_n 2, 49, 2, 0, .null, false),
  (87, .aload_n 0, 50, 0, 0, .null, false),
  (88, .getfield 46, 51, 5, 6, .null, false),
  (91, .getfield 200, 52, 4, 1, .null, false),
  (94, .if_icmp .ne 7, 53, 55, 0, .null, false),
  (97, .iconst 1, 54, 0, 0, .int 1, false),
  (98, .goto 5, 0, 56, 0, .null, false),
  (101, .bipush (-9), 56, 0, 0, .int (-9), false),
  (103, .ireturn, 0, 0, 0, .null, true)]
def q_X5_surely : List (List mm_N) := [q_X5_surely_0, q_X5_surely_1]
def q_X5_freed_0 : List mm_N := [(0, .iload_n 1, 1, 1, 0, .null, false),
  (1, .iconst 5, 2, 0, 0, .int 5, false),
  (2, .invokestatic 78, 3, 100, 2, .null, false),
  (5, .ifCond .ne 5, 4, 6, 0, .null, false),
  (8, .iconst (-1), 5, 0, 0, .int (-1), false),
  (9, .ireturn, 0, 0, 0, .null, false),
  (10, .aload_n 0, 7, 0, 0, .null, false),
  (11, .iconst 0, 8, 0, 0, .int 0, false),
  (12, .invokevirtual 168, 9, 109, 2, .null, false),
  (15, .aload_n 0, 10, 0, 0, .null, false),
  (16, .getfield 46, 11, 5, 6, .null, false),
  (19, .getfield 200, 12, 4, 1, .null, false),
  (22, .ifCond .ne 9, 13, 17, 0, .null, false),
  (25, .aload_n 0, 14, 0, 0, .null, false),
  (26, .iconst 4, 15, 0, 0, .int 4, false),
  (27, .invokevirtual 101, 16, 104, 2, .null, false),
  (30, .ireturn, 0, 0, 0, .null, false),
  (31, .aload_n 0, 18, 0, 0, .null, false),
  (32, .getfield 46, 19, 5, 6, .null, false),
  (35, .invokevirtual 196, 20, 46, 1, .null, false),
  (38, .istore_n 2, 21, 2, 0, .null, false),
  (39, .bipush 31, 22, 0, 0, .int 31, false),
  (41, .iconst 1, 23, 0, 0, .int 1, false),
  (42, .iload_n 1, 24, 1, 0, .null, false),
  (43, .ishl, 25, 0, 0, .null, false),
  (44, .iconst (-1), 26, 0, 0, .int (-1), false),
  (45, .ixor, 27, 0, 0, .null, false),
  (46, .iand, 28, 0, 0, .null, false),
  (47, .istore_n 3, 29, 3, 0, .null, false),
  (48, .iconst 0, 30, 0, 0, .int 0, false),
  (49, .istore 4, 31, 4, 0, .null, false),
  (51, .iconst 0, 32, 0, 0, .int 0, false)]
def q_X5_freed_1 : List mm_N := [(52, .istore 5, 33, 5, 0, .null, false),
  (54, .iload 5, 34, 5, 0, .null, true),
  (56, .bipush 32, 35, 0, 0, .int 32, false),
  (58, .if_icmp .ge 42, 36, 54, 0, .null, false),
  (61, .aload_n 0, 37, 0, 0, .null, false),
  (62, .getfield 21, 38, 5, 2, .null, false),
  (65, .iload 5, 39, 5, 0, .null, false),
  (67, .iload_n 2, 40, 2, 0, .null, false),
  (68, .bipush 31, 41, 0, 0, .int 31, false),
  (70, .invokevirtual 240, 42, 23, 4, .null, false),
  (73, .iconst 1, 43, 0, 0, .int 1, false),
  (74, .if_icmp .ne 20, 44, 52, 0, .null, false),
  (77, .aload_n 0, 45, 0, 0, .null, false),
  (78, .getfield 21, 46, 5, 2, .null, false),
  (81, .iload 5, 47, 5, 0, .null, false),
  (83, .iload_n 2, 48, 2, 0, .null, false),
  (84, .iload_n 3, 49, 3, 0, .null, false),
  (85, .invokevirtual 240, 50, 23, 4, .null, false),
  (88, .ifCond .ne 6, 51, 52, 0, .null, false),
  (91, .iinc 4 1, 52, 4, 0, .int 1, false),
  (94, .iinc 5 1, 53, 5, 0, .int 1, true),
  (97, .goto (-43), 0, 33, 0, .null, false),
  (100, .iload 4, 55, 4, 0, .null, false),
  (102, .ireturn, 0, 0, 0, .null, false)]
def q_X5_freed : List (List mm_N) := [q_X5_freed_0, q_X5_freed_1]
def q_X5_code_0 : List mm_N := [(0, .aload_n 0, 1, 0, 0, .null, false),
  (1, .iconst 0, 2, 0, 0, .int 0, false),
  (2, .invokevirtual 168, 3, 109, 2, .null, false),
  (5, .aload_n 0, 4, 0, 0, .null, false),
  (6, .getfield 46, 5, 5, 6, .null, false),
  (9, .getfield 200, 6, 4, 1, .null, false),
  (12, .ifCond .ne 9, 7, 11, 0, .null, false),
  (15, .aload_n 0, 8, 0, 0, .null, false),
  (16, .iconst 4, 9, 0, 0, .int 4, false),
  (17, .invokevirtual 101, 10, 104, 2, .null, false),
  (20, .ireturn, 0, 0, 0, .null, false),
  (21, .aload_n 0, 12, 0, 0, .null, false),
  (22, .getfield 46, 13, 5, 6, .null, false),
  (25, .invokevirtual 196, 14, 46, 1, .null, false),
  (28, .istore_n 1, 15, 1, 0, .null, false),
  (29, .aload_n 0, 16, 0, 0, .null, false),
  (30, .getfield 21, 17, 5, 2, .null, false),
  (33, .iload_n 1, 18, 1, 0, .null, false),
  (34, .invokevirtual 243, 19, 24, 2, .null, false),
  (37, .istore_n 2, 20, 2, 0, .null, false),
  (38, .iload_n 1, 21, 1, 0, .null, false),
  (39, .invokestatic 163, 22, 208, 1, .null, false),
  (42, .istore_n 3, 23, 3, 0, .null, false),
  (43, .iload_n 1, 24, 1, 0, .null, false),
  (44, .istore 4, 25, 4, 0, .null, false),
  (46, .iconst 0, 26, 0, 0, .int 0, false),
  (47, .istore 5, 27, 5, 0, .null, false),
  (49, .iload 5, 28, 5, 0, .null, true),
  (51, .iload_n 1, 29, 1, 0, .null, false),
  (52, .if_icmp .ge 62, 30, 59, 0, .null, false),
  (55, .iload 5, 31, 5, 0, .null, false),
  (57, .iload_n 1, 32, 1, 0, .null, false)]
def q_X5_code_1 : List mm_N := [(58, .iconst (-1), 33, 0, 0, .int (-1), false),
  (59, .ixor, 34, 0, 0, .null, false),
  (60, .iand, 35, 0, 0, .null, false),
  (61, .ifCond .ne 16, 36, 42, 0, .null, false),
  (64, .iload 5, 37, 5, 0, .null, false),
  (66, .invokestatic 163, 38, 208, 1, .null, false),
  (69, .iload_n 3, 39, 3, 0, .null, false),
  (70, .if_icmp .ge 7, 40, 42, 0, .null, false),
  (73, .iconst 1, 41, 0, 0, .int 1, false),
  (74, .goto 4, 0, 43, 0, .null, false),
  (77, .iconst 0, 43, 0, 0, .int 0, true),
  (78, .istore 6, 44, 6, 0, .null, true),
  (80, .iload 6, 45, 6, 0, .null, false),
  (82, .ifCond .eq 26, 46, 57, 0, .null, false),
  (85, .aload_n 0, 47, 0, 0, .null, false),
  (86, .getfield 21, 48, 5, 2, .null, false),
  (89, .iload 5, 49, 5, 0, .null, false),
  (91, .iload_n 2, 50, 2, 0, .null, false),
  (92, .invokevirtual 246, 51, 25, 3, .null, false),
  (95, .ifCond .eq 13, 52, 57, 0, .null, false),
  (98, .iload 5, 53, 5, 0, .null, false),
  (100, .invokestatic 163, 54, 208, 1, .null, false),
  (103, .istore_n 3, 55, 3, 0, .null, false),
  (104, .iload 5, 56, 5, 0, .null, false),
  (106, .istore 4, 57, 4, 0, .null, false),
  (108, .iinc 5 1, 58, 5, 0, .int 1, true),
  (111, .goto (-62), 0, 27, 0, .null, false),
  (114, .aload_n 0, 60, 0, 0, .null, false),
  (115, .iload 4, 61, 4, 0, .null, false),
  (117, .putfield 61, 62, 5, 10, .null, false),
  (120, .iload_n 3, 63, 3, 0, .null, false),
  (121, .ireturn, 0, 0, 0, .null, false)]
def q_X5_code : List (List mm_N) := [q_X5_code_0, q_X5_code_1]
def q_X5_kinds_0 : List mm_N := [(0, .aload_n 0, 1, 0, 0, .null, false),
  (1, .getfield 21, 2, 5, 2, .null, false),
  (4, .iload_n 1, 3, 1, 0, .null, false),
  (5, .invokevirtual 141, 4, 8, 2, .null, false),
  (8, .ifCond .eq 19, 5, 13, 0, .null, false),
  (11, .iload_n 2, 6, 2, 0, .null, false),
  (12, .iconst 1, 7, 0, 0, .int 1, false),
  (13, .aload_n 0, 8, 0, 0, .null, false),
  (14, .getfield 21, 9, 5, 2, .null, false),
  (17, .getfield 140, 10, 1, 6, .null, false),
  (20, .ishl, 11, 0, 0, .null, false),
  (21, .invokestatic 78, 12, 100, 2, .null, false),
  (24, .ifCond .ne 5, 13, 15, 0, .null, false),
  (27, .iconst (-1), 14, 0, 0, .int (-1), true),
  (28, .ireturn, 0, 0, 0, .null, false),
  (29, .aload_n 0, 16, 0, 0, .null, false),
  (30, .getfield 39, 17, 5, 5, .null, false),
  (33, .aload_n 0, 18, 0, 0, .null, false),
  (34, .getfield 21, 19, 5, 2, .null, false),
  (37, .invokevirtual 190, 20, 1, 2, .null, false),
  (40, .iconst 0, 21, 0, 0, .int 0, false),
  (41, .istore_n 3, 22, 3, 0, .null, false),
  (42, .iconst 0, 23, 0, 0, .int 0, false),
  (43, .istore 4, 24, 4, 0, .null, false),
  (45, .iload 4, 25, 4, 0, .null, true),
  (47, .bipush 6, 26, 0, 0, .int 6, false),
  (49, .if_icmp .ge 38, 27, 46, 0, .null, false),
  (52, .aload_n 0, 28, 0, 0, .null, false),
  (53, .getfield 39, 29, 5, 5, .null, false),
  (56, .getfield 249, 30, 0, 0, .null, false),
  (59, .iload_n 1, 31, 1, 0, .null, false),
  (60, .iload 4, 32, 4, 0, .null, false)]
def q_X5_kinds_1 : List mm_N := [(62, .iastore, 33, 0, 0, .null, false),
  (63, .aload_n 0, 34, 0, 0, .null, false),
  (64, .getfield 39, 35, 5, 5, .null, false),
  (67, .iload_n 2, 36, 2, 0, .null, false),
  (68, .invokevirtual 250, 37, 5, 2, .null, false),
  (71, .ifCond .ne 10, 38, 44, 0, .null, false),
  (74, .iload_n 3, 39, 3, 0, .null, false),
  (75, .iconst 1, 40, 0, 0, .int 1, false),
  (76, .iload 4, 41, 4, 0, .null, false),
  (78, .ishl, 42, 0, 0, .null, false),
  (79, .ior, 43, 0, 0, .null, false),
  (80, .istore_n 3, 44, 3, 0, .null, false),
  (81, .iinc 4 1, 45, 4, 0, .int 1, true),
  (84, .goto (-39), 0, 24, 0, .null, false),
  (87, .iload_n 3, 47, 3, 0, .null, false),
  (88, .ireturn, 0, 0, 0, .null, false)]
def q_X5_kinds : List (List mm_N) := [q_X5_kinds_0, q_X5_kinds_1]
def q_X5_forged_0 : List mm_N := [(0, .iload_n 1, 1, 1, 0, .null, false),
  (1, .iconst 1, 2, 0, 0, .int 1, false),
  (2, .aload_n 0, 3, 0, 0, .null, false),
  (3, .getfield 21, 4, 5, 2, .null, false),
  (6, .getfield 140, 5, 1, 6, .null, false),
  (9, .ishl, 6, 0, 0, .null, false),
  (10, .invokestatic 78, 7, 100, 2, .null, false),
  (13, .ifCond .ne 5, 8, 10, 0, .null, false),
  (16, .iconst (-1), 9, 0, 0, .int (-1), false),
  (17, .ireturn, 0, 0, 0, .null, false),
  (18, .iconst 0, 11, 0, 0, .int 0, false),
  (19, .istore_n 2, 12, 2, 0, .null, false),
  (20, .iconst 0, 13, 0, 0, .int 0, false),
  (21, .istore_n 3, 14, 3, 0, .null, false),
  (22, .iload_n 3, 15, 3, 0, .null, true),
  (23, .aload_n 0, 16, 0, 0, .null, false),
  (24, .getfield 21, 17, 5, 2, .null, false),
  (27, .getfield 140, 18, 1, 6, .null, false),
  (30, .if_icmp .ge 61, 19, 49, 0, .null, false),
  (33, .aload_n 0, 20, 0, 0, .null, false),
  (34, .getfield 21, 21, 5, 2, .null, false),
  (37, .getfield 253, 22, 1, 4, .null, false),
  (40, .iload_n 3, 23, 3, 0, .null, false),
  (41, .iaload, 24, 0, 0, .null, false),
  (42, .ifCond .eq 43, 25, 47, 0, .null, false),
  (45, .aload_n 0, 26, 0, 0, .null, false),
  (46, .getfield 39, 27, 5, 5, .null, false),
  (49, .aload_n 0, 28, 0, 0, .null, false),
  (50, .getfield 21, 29, 5, 2, .null, false),
  (53, .invokevirtual 190, 30, 1, 2, .null, false),
  (56, .aload_n 0, 31, 0, 0, .null, false),
  (57, .getfield 39, 32, 5, 5, .null, false)]
def q_X5_forged_1 : List mm_N := [(60, .iload_n 3, 33, 3, 0, .null, false),
  (61, .invokevirtual 256, 34, 2, 2, .null, false),
  (64, .iload_n 2, 35, 2, 0, .null, false),
  (65, .aload_n 0, 36, 0, 0, .null, false),
  (66, .getfield 39, 37, 5, 5, .null, false),
  (69, .iload_n 1, 38, 1, 0, .null, false),
  (70, .invokevirtual 250, 39, 5, 2, .null, false),
  (73, .ifCond .ne 9, 40, 44, 0, .null, false),
  (76, .iconst 1, 41, 0, 0, .int 1, false),
  (77, .iload_n 3, 42, 3, 0, .null, false),
  (78, .ishl, 43, 0, 0, .null, false),
  (79, .goto 4, 0, 45, 0, .null, false),
  (82, .iconst 0, 45, 0, 0, .int 0, false),
  (83, .ior, 46, 0, 0, .null, true),
  (84, .istore_n 2, 47, 2, 0, .null, false),
  (85, .iinc 3 1, 48, 3, 0, .int 1, true),
  (88, .goto (-66), 0, 14, 0, .null, false),
  (91, .iload_n 2, 50, 2, 0, .null, false),
  (92, .ireturn, 0, 0, 0, .null, false)]
def q_X5_forged : List (List mm_N) := [q_X5_forged_0, q_X5_forged_1]
def q_X5_torn_0 : List mm_N := [(0, .iload_n 1, 1, 1, 0, .null, false),
  (1, .iconst 1, 2, 0, 0, .int 1, false),
  (2, .aload_n 0, 3, 0, 0, .null, false),
  (3, .getfield 21, 4, 5, 2, .null, false),
  (6, .getfield 140, 5, 1, 6, .null, false),
  (9, .ishl, 6, 0, 0, .null, false),
  (10, .invokestatic 78, 7, 100, 2, .null, false),
  (13, .ifCond .eq 19, 8, 16, 0, .null, false),
  (16, .iload_n 2, 9, 2, 0, .null, false),
  (17, .iconst 1, 10, 0, 0, .int 1, false),
  (18, .aload_n 0, 11, 0, 0, .null, false),
  (19, .getfield 21, 12, 5, 2, .null, false),
  (22, .getfield 140, 13, 1, 6, .null, false),
  (25, .ishl, 14, 0, 0, .null, false),
  (26, .invokestatic 78, 15, 100, 2, .null, false),
  (29, .ifCond .ne 5, 16, 18, 0, .null, false),
  (32, .iconst (-1), 17, 0, 0, .int (-1), true),
  (33, .ireturn, 0, 0, 0, .null, false),
  (34, .aload_n 0, 19, 0, 0, .null, false),
  (35, .iconst 0, 20, 0, 0, .int 0, false),
  (36, .invokevirtual 168, 21, 109, 2, .null, false),
  (39, .iconst 0, 22, 0, 0, .int 0, false),
  (40, .istore_n 3, 23, 3, 0, .null, false),
  (41, .bipush (-9), 24, 0, 0, .int (-9), false),
  (43, .istore 4, 25, 4, 0, .null, false),
  (45, .iconst 0, 26, 0, 0, .int 0, false),
  (46, .istore 5, 27, 5, 0, .null, false),
  (48, .iload 5, 28, 5, 0, .null, true),
  (50, .aload_n 0, 29, 0, 0, .null, false),
  (51, .getfield 46, 30, 5, 6, .null, false),
  (54, .getfield 200, 31, 4, 1, .null, false),
  (57, .if_icmp .ge 50, 32, 55, 0, .null, false)]
def q_X5_torn_1 : List mm_N := [(60, .aload_n 0, 33, 0, 0, .null, false),
  (61, .getfield 46, 34, 5, 6, .null, false),
  (64, .getfield 203, 35, 4, 0, .null, false),
  (67, .iload 5, 36, 5, 0, .null, false),
  (69, .iaload, 37, 0, 0, .null, false),
  (70, .iload_n 2, 38, 2, 0, .null, false),
  (71, .ixor, 39, 0, 0, .null, false),
  (72, .iload_n 1, 40, 1, 0, .null, false),
  (73, .iand, 41, 0, 0, .null, false),
  (74, .ifCond .ne 27, 42, 53, 0, .null, false),
  (77, .iload_n 3, 43, 3, 0, .null, false),
  (78, .ifCond .ne 16, 44, 50, 0, .null, false),
  (81, .aload_n 0, 45, 0, 0, .null, false),
  (82, .getfield 46, 46, 5, 6, .null, false),
  (85, .getfield 203, 47, 4, 0, .null, false),
  (88, .iload 5, 48, 5, 0, .null, false),
  (90, .iaload, 49, 0, 0, .null, false),
  (91, .goto 5, 0, 51, 0, .null, false),
  (94, .iload 4, 51, 4, 0, .null, false),
  (96, .istore 4, 52, 4, 0, .null, true),
  (98, .iinc 3 1, 53, 3, 0, .int 1, false),
  (101, .iinc 5 1, 54, 5, 0, .int 1, true),
  (104, .goto (-56), 0, 27, 0, .null, false),
  (107, .aload_n 0, 56, 0, 0, .null, false),
  (108, .iload 4, 57, 4, 0, .null, false),
  (110, .putfield 61, 58, 5, 10, .null, false),
  (113, .iload_n 3, 59, 3, 0, .null, false),
  (114, .ireturn, 0, 0, 0, .null, false)]
def q_X5_torn : List (List mm_N) := [q_X5_torn_0, q_X5_torn_1]
def q_X5_lots_0 : List mm_N := [(0, .iload_n 1, 1, 1, 0, .null, false),
  (1, .iconst 1, 2, 0, 0, .int 1, false),
  (2, .if_icmp .lt 21, 3, 12, 0, .null, false),
  (5, .iload_n 1, 4, 1, 0, .null, false),
  (6, .bipush 9, 5, 0, 0, .int 9, false),
  (8, .if_icmp .gt 15, 6, 12, 0, .null, false),
  (11, .iload_n 2, 7, 2, 0, .null, false),
  (12, .iconst 1, 8, 0, 0, .int 1, false),
  (13, .if_icmp .lt 10, 9, 12, 0, .null, false),
  (16, .iload_n 2, 10, 2, 0, .null, false),
  (17, .ldc_w 259, 11, 0, 0, .int 2147483647, false),
  (20, .if_icmp .lt 5, 12, 14, 0, .null, false),
  (23, .iconst (-1), 13, 0, 0, .int (-1), true),
  (24, .ireturn, 0, 0, 0, .null, false),
  (25, .aload_n 0, 15, 0, 0, .null, false),
  (26, .getfield 21, 16, 5, 2, .null, false),
  (29, .getfield 140, 17, 1, 6, .null, false),
  (32, .iload_n 1, 18, 1, 0, .null, false),
  (33, .iadd, 19, 0, 0, .null, false),
  (34, .bipush 9, 20, 0, 0, .int 9, false),
  (36, .if_icmp .le 6, 21, 23, 0, .null, false),
  (39, .bipush (-2), 22, 0, 0, .int (-2), false),
  (41, .ireturn, 0, 0, 0, .null, false),
  (42, .iload_n 2, 24, 2, 0, .null, false),
  (43, .istore_n 3, 25, 3, 0, .null, false),
  (44, .iconst 0, 26, 0, 0, .int 0, false),
  (45, .istore 4, 27, 4, 0, .null, false),
  (47, .iload 4, 28, 4, 0, .null, true),
  (49, .iload_n 1, 29, 1, 0, .null, false),
  (50, .if_icmp .ge 26, 30, 43, 0, .null, false),
  (53, .ldc2_w 260, 31, 0, 0, .long 48271, false),
  (56, .iload_n 3, 32, 3, 0, .null, false)]
def q_X5_lots_1 : List mm_N := [(57, .i2l, 33, 0, 0, .null, false),
  (58, .lmul, 34, 0, 0, .null, false),
  (59, .ldc2_w 262, 35, 0, 0, .long 2147483647, false),
  (62, .lrem, 36, 0, 0, .null, false),
  (63, .l2i, 37, 0, 0, .null, false),
  (64, .istore_n 3, 38, 3, 0, .null, false),
  (65, .aload_n 0, 39, 0, 0, .null, false),
  (66, .iload_n 3, 40, 3, 0, .null, false),
  (67, .invokevirtual 264, 41, 113, 2, .null, false),
  (70, .iinc 4 1, 42, 4, 0, .int 1, false),
  (73, .goto (-26), 0, 27, 0, .null, false),
  (76, .aload_n 0, 44, 0, 0, .null, false),
  (77, .getfield 21, 45, 5, 2, .null, false),
  (80, .getfield 140, 46, 1, 6, .null, false),
  (83, .ireturn, 0, 0, 0, .null, false)]
def q_X5_lots : List (List mm_N) := [q_X5_lots_0, q_X5_lots_1]
def q_X5_asked_0 : List mm_N := [(0, .aload_n 0, 1, 0, 0, .null, false),
  (1, .getfield 61, 2, 5, 10, .null, false),
  (4, .ireturn, 0, 0, 0, .null, false)]
def q_X5_asked : List (List mm_N) := [q_X5_asked_0]
def q_X5_upper_0 : List mm_N := [(0, .aload_n 0, 1, 0, 0, .null, false),
  (1, .getfield 64, 2, 5, 11, .null, false),
  (4, .lreturn, 0, 0, 0, .null, false)]
def q_X5_upper : List (List mm_N) := [q_X5_upper_0]
def q_X5_lower_0 : List mm_N := [(0, .aload_n 0, 1, 0, 0, .null, false),
  (1, .getfield 68, 2, 5, 12, .null, false),
  (4, .lreturn, 0, 0, 0, .null, false)]
def q_X5_lower : List (List mm_N) := [q_X5_lower_0]
def q_X5_count_0 : List mm_N := [(0, .iload_n 1, 1, 1, 0, .null, false),
  (1, .bipush 8, 2, 0, 0, .int 8, false),
  (3, .invokestatic 78, 3, 100, 2, .null, false),
  (6, .ifCond .eq 11, 4, 8, 0, .null, false),
  (9, .aload_n 0, 5, 0, 0, .null, false),
  (10, .iload_n 1, 6, 1, 0, .null, false),
  (11, .invokevirtual 267, 7, 114, 2, .null, false),
  (14, .goto 4, 0, 9, 0, .null, false),
  (17, .iconst (-1), 9, 0, 0, .int (-1), false),
  (18, .ireturn, 0, 0, 0, .null, true)]
def q_X5_count : List (List mm_N) := [q_X5_count_0]
def q_X5_finding_0 : List mm_N := [(0, .aload_n 0, 1, 0, 0, .null, false),
  (1, .getfield 57, 2, 5, 9, .null, false),
  (4, .ireturn, 0, 0, 0, .null, false)]
def q_X5_finding : List (List mm_N) := [q_X5_finding_0]
def q_X5_findings_0 : List mm_N := [(0, .iload_n 1, 1, 1, 0, .null, false),
  (1, .iconst 1, 2, 0, 0, .int 1, false),
  (2, .if_icmp .lt 8, 3, 6, 0, .null, false),
  (5, .iload_n 1, 4, 1, 0, .null, false),
  (6, .iconst 5, 5, 0, 0, .int 5, false),
  (7, .if_icmp .le 7, 6, 8, 0, .null, false),
  (10, .iconst (-1), 7, 0, 0, .int (-1), true),
  (11, .goto 9, 0, 12, 0, .null, false),
  (14, .aload_n 0, 9, 0, 0, .null, false),
  (15, .getfield 54, 10, 5, 8, .null, false),
  (18, .iload_n 1, 11, 1, 0, .null, false),
  (19, .iaload, 12, 0, 0, .null, false),
  (20, .ireturn, 0, 0, 0, .null, true)]
def q_X5_findings : List (List mm_N) := [q_X5_findings_0]
def q_X5_digest_0 : List mm_N := [(0, .ldc2_w 270, 1, 0, 0, .long 17, false),
  (3, .lstore_n 1, 2, 1, 0, .null, false),
  (4, .iconst 0, 3, 0, 0, .int 0, false),
  (5, .istore_n 3, 4, 3, 0, .null, false),
  (6, .iload_n 3, 5, 3, 0, .null, true),
  (7, .bipush 8, 6, 0, 0, .int 8, false),
  (9, .if_icmp .ge 22, 7, 18, 0, .null, false),
  (12, .ldc2_w 272, 8, 0, 0, .long 31, false),
  (15, .lload_n 1, 9, 1, 0, .null, false),
  (16, .lmul, 10, 0, 0, .null, false),
  (17, .aload_n 0, 11, 0, 0, .null, false),
  (18, .iload_n 3, 12, 3, 0, .null, false),
  (19, .invokevirtual 267, 13, 114, 2, .null, false),
  (22, .i2l, 14, 0, 0, .null, false),
  (23, .ladd, 15, 0, 0, .null, false),
  (24, .lstore_n 1, 16, 1, 0, .null, false),
  (25, .iinc 3 1, 17, 3, 0, .int 1, false),
  (28, .goto (-22), 0, 4, 0, .null, false),
  (31, .iconst 0, 19, 0, 0, .int 0, false),
  (32, .istore_n 3, 20, 3, 0, .null, false),
  (33, .iload_n 3, 21, 3, 0, .null, true),
  (34, .aload_n 0, 22, 0, 0, .null, false),
  (35, .getfield 21, 23, 5, 2, .null, false),
  (38, .getfield 140, 24, 1, 6, .null, false),
  (41, .if_icmp .ge 43, 25, 45, 0, .null, false),
  (44, .iconst 0, 26, 0, 0, .int 0, false),
  (45, .istore 4, 27, 4, 0, .null, false),
  (47, .iload 4, 28, 4, 0, .null, true),
  (49, .bipush 7, 29, 0, 0, .int 7, false),
  (51, .if_icmp .ge 27, 30, 43, 0, .null, false),
  (54, .ldc2_w 272, 31, 0, 0, .long 31, false),
  (57, .lload_n 1, 32, 1, 0, .null, false)]
def q_X5_digest_1 : List mm_N := [(58, .lmul, 33, 0, 0, .null, false),
  (59, .aload_n 0, 34, 0, 0, .null, false),
  (60, .getfield 21, 35, 5, 2, .null, false),
  (63, .iload_n 3, 36, 3, 0, .null, false),
  (64, .iload 4, 37, 4, 0, .null, false),
  (66, .invokevirtual 145, 38, 15, 3, .null, false),
  (69, .i2l, 39, 0, 0, .null, false),
  (70, .ladd, 40, 0, 0, .null, false),
  (71, .lstore_n 1, 41, 1, 0, .null, false),
  (72, .iinc 4 1, 42, 4, 0, .int 1, false),
  (75, .goto (-28), 0, 27, 0, .null, false),
  (78, .iinc 3 1, 44, 3, 0, .int 1, false),
  (81, .goto (-48), 0, 20, 0, .null, false),
  (84, .iconst 0, 46, 0, 0, .int 0, false),
  (85, .istore_n 3, 47, 3, 0, .null, false),
  (86, .iload_n 3, 48, 3, 0, .null, true),
  (87, .iconst 3, 49, 0, 0, .int 3, false),
  (88, .if_icmp .ge 38, 50, 69, 0, .null, false),
  (91, .ldc2_w 272, 51, 0, 0, .long 31, false),
  (94, .lload_n 1, 52, 1, 0, .null, false),
  (95, .lmul, 53, 0, 0, .null, false),
  (96, .aload_n 0, 54, 0, 0, .null, false),
  (97, .iload_n 3, 55, 3, 0, .null, false),
  (98, .invokevirtual 187, 56, 108, 2, .null, false),
  (101, .ifCond .eq 15, 57, 63, 0, .null, false),
  (104, .aload_n 0, 58, 0, 0, .null, false),
  (105, .getfield 25, 59, 5, 3, .null, false),
  (108, .iload_n 3, 60, 3, 0, .null, false),
  (109, .aaload, 61, 0, 0, .null, false),
  (110, .getfield 140, 62, 1, 6, .null, false),
  (113, .goto 4, 0, 64, 0, .null, false),
  (116, .iconst (-1), 64, 0, 0, .int (-1), false)]
def q_X5_digest_2 : List mm_N := [(117, .i2l, 65, 0, 0, .null, true),
  (118, .ladd, 66, 0, 0, .null, false),
  (119, .lstore_n 1, 67, 1, 0, .null, false),
  (120, .iinc 3 1, 68, 3, 0, .int 1, false),
  (123, .goto (-37), 0, 47, 0, .null, false),
  (126, .iconst 0, 70, 0, 0, .int 0, false),
  (127, .istore_n 3, 71, 3, 0, .null, false),
  (128, .iload_n 3, 72, 3, 0, .null, true),
  (129, .bipush 6, 73, 0, 0, .int 6, false),
  (131, .if_icmp .ge 20, 74, 83, 0, .null, false),
  (134, .aload_n 0, 75, 0, 0, .null, false),
  (135, .getfield 11, 76, 5, 0, .null, false),
  (138, .iload_n 3, 77, 3, 0, .null, false),
  (139, .aaload, 78, 0, 0, .null, false),
  (140, .lload_n 1, 79, 1, 0, .null, false),
  (141, .invokevirtual 274, 80, 43, 2, .null, false),
  (144, .lstore_n 1, 81, 1, 0, .null, false),
  (145, .iinc 3 1, 82, 3, 0, .int 1, false),
  (148, .goto (-20), 0, 71, 0, .null, false),
  (151, .iconst 0, 84, 0, 0, .int 0, false),
  (152, .istore_n 3, 85, 3, 0, .null, false),
  (153, .iload_n 3, 86, 3, 0, .null, true),
  (154, .iconst 4, 87, 0, 0, .int 4, false),
  (155, .if_icmp .ge 20, 88, 97, 0, .null, false),
  (158, .aload_n 0, 89, 0, 0, .null, false),
  (159, .getfield 15, 90, 5, 1, .null, false),
  (162, .iload_n 3, 91, 3, 0, .null, false),
  (163, .aaload, 92, 0, 0, .null, false),
  (164, .lload_n 1, 93, 1, 0, .null, false),
  (165, .invokevirtual 274, 94, 43, 2, .null, false),
  (168, .lstore_n 1, 95, 1, 0, .null, false),
  (169, .iinc 3 1, 96, 3, 0, .int 1, false)]
def q_X5_digest_3 : List mm_N := [(172, .goto (-19), 0, 85, 0, .null, false),
  (175, .lload_n 1, 98, 1, 0, .null, false),
  (176, .lreturn, 0, 0, 0, .null, false)]
def q_X5_digest : List (List mm_N) := [q_X5_digest_0, q_X5_digest_1, q_X5_digest_2, q_X5_digest_3]
def q_X5_within_0 : List mm_N := [(0, .iload_n 0, 1, 0, 0, .null, false),
  (1, .ifCond .lt 12, 2, 7, 0, .null, false),
  (4, .iload_n 0, 3, 0, 0, .null, false),
  (5, .iload_n 1, 4, 1, 0, .null, false),
  (6, .if_icmp .ge 7, 5, 7, 0, .null, false),
  (9, .iconst 1, 6, 0, 0, .int 1, false),
  (10, .goto 4, 0, 8, 0, .null, false),
  (13, .iconst 0, 8, 0, 0, .int 0, true),
  (14, .ireturn, 0, 0, 0, .null, true)]
def q_X5_within : List (List mm_N) := [q_X5_within_0]
def q_X5_holds_0 : List mm_N := [(0, .iload_n 0, 1, 0, 0, .null, false),
  (1, .iload_n 1, 2, 1, 0, .null, false),
  (2, .ishr, 3, 0, 0, .null, false),
  (3, .iconst 1, 4, 0, 0, .int 1, false),
  (4, .iand, 5, 0, 0, .null, false),
  (5, .iconst 1, 6, 0, 0, .int 1, false),
  (6, .if_icmp .ne 7, 7, 9, 0, .null, false),
  (9, .iconst 1, 8, 0, 0, .int 1, false),
  (10, .goto 4, 0, 10, 0, .null, false),
  (13, .iconst 0, 10, 0, 0, .int 0, false),
  (14, .ireturn, 0, 0, 0, .null, true)]
def q_X5_holds : List (List mm_N) := [q_X5_holds_0]
def q_X5_isOfKind_0 : List mm_N := [(0, .iload_n 0, 1, 0, 0, .null, false),
  (1, .iload_n 1, 2, 1, 0, .null, false),
  (2, .if_icmp .eq 23, 3, 15, 0, .null, false),
  (5, .iload_n 0, 4, 0, 0, .null, false),
  (6, .iconst 4, 5, 0, 0, .int 4, false),
  (7, .if_icmp .ne 8, 6, 9, 0, .null, false),
  (10, .iload_n 1, 7, 1, 0, .null, false),
  (11, .iconst 1, 8, 0, 0, .int 1, false),
  (12, .if_icmp .eq 13, 9, 15, 0, .null, false),
  (15, .iload_n 0, 10, 0, 0, .null, true),
  (16, .iconst 5, 11, 0, 0, .int 5, false),
  (17, .if_icmp .ne 12, 12, 17, 0, .null, false),
  (20, .iload_n 1, 13, 1, 0, .null, false),
  (21, .iconst 2, 14, 0, 0, .int 2, false),
  (22, .if_icmp .ne 7, 15, 17, 0, .null, false),
  (25, .iconst 1, 16, 0, 0, .int 1, true),
  (26, .goto 4, 0, 18, 0, .null, false),
  (29, .iconst 0, 18, 0, 0, .int 0, true),
  (30, .ireturn, 0, 0, 0, .null, true)]
def q_X5_isOfKind : List (List mm_N) := [q_X5_isOfKind_0]
def q_X5_greatestDivisor_0 : List mm_N := [(0, .iload_n 1, 1, 1, 0, .null, false),
  (1, .istore_n 2, 2, 2, 0, .null, false),
  (2, .iload_n 2, 3, 2, 0, .null, true),
  (3, .iconst 1, 4, 0, 0, .int 1, false),
  (4, .if_icmp .le 23, 5, 17, 0, .null, false),
  (7, .iload_n 0, 6, 0, 0, .null, false),
  (8, .iload_n 2, 7, 2, 0, .null, false),
  (9, .irem, 8, 0, 0, .null, false),
  (10, .ifCond .ne 11, 9, 15, 0, .null, false),
  (13, .iload_n 1, 10, 1, 0, .null, false),
  (14, .iload_n 2, 11, 2, 0, .null, false),
  (15, .irem, 12, 0, 0, .null, false),
  (16, .ifCond .ne 5, 13, 15, 0, .null, false),
  (19, .iload_n 2, 14, 2, 0, .null, false),
  (20, .ireturn, 0, 0, 0, .null, false),
  (21, .iinc 2 (-1), 16, 2, 0, .int (-1), true),
  (24, .goto (-22), 0, 2, 0, .null, false),
  (27, .iconst 1, 18, 0, 0, .int 1, false),
  (28, .ireturn, 0, 0, 0, .null, false)]
def q_X5_greatestDivisor : List (List mm_N) := [q_X5_greatestDivisor_0]
def q_X5_refuse_0 : List mm_N := [(0, .aload_n 0, 1, 0, 0, .null, false),
  (1, .iload_n 1, 2, 1, 0, .null, false),
  (2, .putfield 57, 3, 5, 9, .null, false),
  (5, .aload_n 0, 4, 0, 0, .null, false),
  (6, .getfield 54, 5, 5, 8, .null, false),
  (9, .iload_n 1, 6, 1, 0, .null, false),
  (10, .dup2, 7, 0, 0, .null, false),
  (11, .iaload, 8, 0, 0, .null, false),
  (12, .iconst 1, 9, 0, 0, .int 1, false),
  (13, .iadd, 10, 0, 0, .null, false),
  (14, .iastore, 11, 0, 0, .null, false),
  (15, .bipush (-3), 12, 0, 0, .int (-3), false),
  (17, .ireturn, 0, 0, 0, .null, false)]
def q_X5_refuse : List (List mm_N) := [q_X5_refuse_0]
def q_X5_tell_0 : List mm_N := [(0, .aload_n 0, 1, 0, 0, .null, false),
  (1, .iload_n 1, 2, 1, 0, .null, false),
  (2, .putfield 61, 3, 5, 10, .null, false),
  (5, .iconst 1, 4, 0, 0, .int 1, false),
  (6, .ireturn, 0, 0, 0, .null, false)]
def q_X5_tell : List (List mm_N) := [q_X5_tell_0]
def q_X5_renewed_0 : List mm_N := [(0, .iload_n 2, 1, 2, 0, .null, false),
  (1, .aload_n 1, 2, 1, 0, .null, false),
  (2, .arraylength, 3, 0, 0, .null, false),
  (3, .invokestatic 78, 4, 100, 2, .null, false),
  (6, .ifCond .eq 14, 5, 12, 0, .null, false),
  (9, .iload_n 3, 6, 3, 0, .null, false),
  (10, .aload_n 1, 7, 1, 0, .null, false),
  (11, .iload_n 2, 8, 2, 0, .null, false),
  (12, .aaload, 9, 0, 0, .null, false),
  (13, .getfield 110, 10, 3, 0, .null, false),
  (16, .arraylength, 11, 0, 0, .null, false),
  (17, .if_icmp .le 5, 12, 14, 0, .null, false),
  (20, .iconst (-1), 13, 0, 0, .int (-1), true),
  (21, .ireturn, 0, 0, 0, .null, false),
  (22, .iload_n 3, 15, 3, 0, .null, false),
  (23, .ifCond .ge 9, 16, 20, 0, .null, false),
  (26, .aload_n 0, 17, 0, 0, .null, false),
  (27, .iconst 5, 18, 0, 0, .int 5, false),
  (28, .invokevirtual 101, 19, 104, 2, .null, false),
  (31, .ireturn, 0, 0, 0, .null, false),
  (32, .aload_n 1, 21, 1, 0, .null, false),
  (33, .iload_n 2, 22, 2, 0, .null, false),
  (34, .aaload, 23, 0, 0, .null, false),
  (35, .iload_n 3, 24, 3, 0, .null, false),
  (36, .iload 4, 25, 4, 0, .null, false),
  (38, .invokevirtual 278, 26, 40, 3, .null, false),
  (41, .iload_n 3, 27, 3, 0, .null, false),
  (42, .ireturn, 0, 0, 0, .null, false)]
def q_X5_renewed : List (List mm_N) := [q_X5_renewed_0]
def q_X5_refusalOfPlace_0 : List mm_N := [(0, .aload_n 1, 1, 1, 0, .null, false),
  (1, .invokevirtual 97, 2, 35, 1, .null, false),
  (4, .ifCond .eq 9, 3, 7, 0, .null, false),
  (7, .aload_n 0, 4, 0, 0, .null, false),
  (8, .iconst 1, 5, 0, 0, .int 1, false),
  (9, .invokevirtual 101, 6, 104, 2, .null, false),
  (12, .ireturn, 0, 0, 0, .null, false),
  (13, .aload_n 1, 8, 1, 0, .null, false),
  (14, .iload_n 2, 9, 2, 0, .null, false),
  (15, .invokevirtual 282, 10, 36, 2, .null, false),
  (18, .ifCond .eq 7, 11, 13, 0, .null, false),
  (21, .iconst 0, 12, 0, 0, .int 0, false),
  (22, .goto 8, 0, 16, 0, .null, false),
  (25, .aload_n 0, 14, 0, 0, .null, false),
  (26, .iconst 2, 15, 0, 0, .int 2, false),
  (27, .invokevirtual 101, 16, 104, 2, .null, false),
  (30, .ireturn, 0, 0, 0, .null, true)]
def q_X5_refusalOfPlace : List (List mm_N) := [q_X5_refusalOfPlace_0]
def q_X5_isKept_0 : List mm_N := [(0, .aload_n 0, 1, 0, 0, .null, false),
  (1, .getfield 25, 2, 5, 3, .null, false),
  (4, .iload_n 1, 3, 1, 0, .null, false),
  (5, .aaload, 4, 0, 0, .null, false),
  (6, .getfield 140, 5, 1, 6, .null, false),
  (9, .ifCond .le 7, 6, 8, 0, .null, false),
  (12, .iconst 1, 7, 0, 0, .int 1, false),
  (13, .goto 4, 0, 9, 0, .null, false),
  (16, .iconst 0, 9, 0, 0, .int 0, false),
  (17, .ireturn, 0, 0, 0, .null, true)]
def q_X5_isKept : List (List mm_N) := [q_X5_isKept_0]
def q_X5_findWays_0 : List mm_N := [(0, .aload_n 0, 1, 0, 0, .null, false),
  (1, .getfield 39, 2, 5, 5, .null, false),
  (4, .aload_n 0, 3, 0, 0, .null, false),
  (5, .getfield 21, 4, 5, 2, .null, false),
  (8, .invokevirtual 190, 5, 1, 2, .null, false),
  (11, .aload_n 0, 6, 0, 0, .null, false),
  (12, .getfield 39, 7, 5, 5, .null, false),
  (15, .iload_n 1, 8, 1, 0, .null, false),
  (16, .putfield 283, 9, 0, 6, .null, false),
  (19, .aload_n 0, 10, 0, 0, .null, false),
  (20, .getfield 46, 11, 5, 6, .null, false),
  (23, .aload_n 0, 12, 0, 0, .null, false),
  (24, .getfield 39, 13, 5, 5, .null, false),
  (27, .invokevirtual 286, 14, 45, 2, .null, false),
  (30, .return_, 0, 0, 0, .null, false)]
def q_X5_findWays : List (List mm_N) := [q_X5_findWays_0]
def q_X5_fewest_0 : List mm_N := [(0, .aload_n 0, 1, 0, 0, .null, false),
  (1, .getfield 39, 2, 5, 5, .null, false),
  (4, .aload_n 0, 3, 0, 0, .null, false),
  (5, .getfield 21, 4, 5, 2, .null, false),
  (8, .invokevirtual 190, 5, 1, 2, .null, false),
  (11, .iconst 0, 6, 0, 0, .int 0, false),
  (12, .istore 4, 7, 4, 0, .null, false),
  (14, .iload 4, 8, 4, 0, .null, true),
  (16, .iconst 3, 9, 0, 0, .int 3, false),
  (17, .if_icmp .gt 76, 10, 50, 0, .null, false),
  (20, .aload_n 0, 11, 0, 0, .null, false),
  (21, .iload_n 1, 12, 1, 0, .null, false),
  (22, .iload_n 2, 13, 2, 0, .null, false),
  (23, .iload 4, 14, 4, 0, .null, false),
  (25, .iconst 0, 15, 0, 0, .int 0, false),
  (26, .invokevirtual 290, 16, 111, 5, .null, false),
  (29, .ifCond .eq 58, 17, 48, 0, .null, false),
  (32, .aload_n 0, 18, 0, 0, .null, false),
  (33, .getfield 11, 19, 5, 0, .null, false),
  (36, .iload_n 3, 20, 3, 0, .null, false),
  (37, .aaload, 21, 0, 0, .null, false),
  (38, .iload 4, 22, 4, 0, .null, false),
  (40, .iconst 0, 23, 0, 0, .int 0, false),
  (41, .invokevirtual 278, 24, 40, 3, .null, false),
  (44, .iconst 0, 25, 0, 0, .int 0, false),
  (45, .istore 5, 26, 5, 0, .null, false),
  (47, .iload 5, 27, 5, 0, .null, true),
  (49, .iload 4, 28, 4, 0, .null, false),
  (51, .if_icmp .ge 33, 29, 46, 0, .null, false),
  (54, .aload_n 0, 30, 0, 0, .null, false),
  (55, .getfield 11, 31, 5, 0, .null, false),
  (58, .iload_n 3, 32, 3, 0, .null, false)]
def q_X5_fewest_1 : List mm_N := [(59, .aaload, 33, 0, 0, .null, false),
  (60, .getfield 110, 34, 3, 0, .null, false),
  (63, .iload 5, 35, 5, 0, .null, false),
  (65, .aload_n 0, 36, 0, 0, .null, false),
  (66, .getfield 50, 37, 5, 7, .null, false),
  (69, .iload 4, 38, 4, 0, .null, false),
  (71, .iconst 1, 39, 0, 0, .int 1, false),
  (72, .isub, 40, 0, 0, .null, false),
  (73, .iload 5, 41, 5, 0, .null, false),
  (75, .isub, 42, 0, 0, .null, false),
  (76, .iaload, 43, 0, 0, .null, false),
  (77, .iastore, 44, 0, 0, .null, false),
  (78, .iinc 5 1, 45, 5, 0, .int 1, false),
  (81, .goto (-34), 0, 26, 0, .null, false),
  (84, .iload 4, 47, 4, 0, .null, false),
  (86, .ireturn, 0, 0, 0, .null, false),
  (87, .iinc 4 1, 49, 4, 0, .int 1, false),
  (90, .goto (-76), 0, 7, 0, .null, false),
  (93, .bipush (-9), 51, 0, 0, .int (-9), false),
  (95, .ireturn, 0, 0, 0, .null, false)]
def q_X5_fewest : List (List mm_N) := [q_X5_fewest_0, q_X5_fewest_1]
def q_X5_canReach_0 : List mm_N := [(0, .iload_n 3, 1, 3, 0, .null, false),
  (1, .ifCond .le 8, 2, 5, 0, .null, false),
  (4, .iload_n 3, 3, 3, 0, .null, false),
  (5, .iconst 3, 4, 0, 0, .int 3, false),
  (6, .if_icmp .le 24, 5, 16, 0, .null, false),
  (9, .aload_n 0, 6, 0, 0, .null, true),
  (10, .getfield 46, 7, 5, 6, .null, false),
  (13, .aload_n 0, 8, 0, 0, .null, false),
  (14, .getfield 39, 9, 5, 5, .null, false),
  (17, .invokevirtual 286, 10, 45, 2, .null, false),
  (20, .aload_n 0, 11, 0, 0, .null, false),
  (21, .getfield 46, 12, 5, 6, .null, false),
  (24, .iload_n 1, 13, 1, 0, .null, false),
  (25, .iload_n 2, 14, 2, 0, .null, false),
  (26, .invokevirtual 294, 15, 50, 3, .null, false),
  (29, .ireturn, 0, 0, 0, .null, false),
  (30, .iload 4, 17, 4, 0, .null, false),
  (32, .istore 5, 18, 5, 0, .null, false),
  (34, .iload 5, 19, 5, 0, .null, true),
  (36, .aload_n 0, 20, 0, 0, .null, false),
  (37, .getfield 39, 21, 5, 5, .null, false),
  (40, .getfield 297, 22, 0, 7, .null, false),
  (43, .if_icmp .ge 79, 23, 68, 0, .null, false),
  (46, .aload_n 0, 24, 0, 0, .null, false),
  (47, .getfield 39, 25, 5, 5, .null, false),
  (50, .iload 5, 26, 5, 0, .null, false),
  (52, .invokevirtual 298, 27, 3, 2, .null, false),
  (55, .ifCond .eq 61, 28, 66, 0, .null, false),
  (58, .aload_n 0, 29, 0, 0, .null, false),
  (59, .getfield 39, 30, 5, 5, .null, false),
  (62, .getfield 301, 31, 0, 5, .null, false),
  (65, .iload 5, 32, 5, 0, .null, false)]
def q_X5_canReach_1 : List mm_N := [(67, .dup2, 33, 0, 0, .null, false),
  (68, .iaload, 34, 0, 0, .null, false),
  (69, .iconst 1, 35, 0, 0, .int 1, false),
  (70, .iadd, 36, 0, 0, .null, false),
  (71, .iastore, 37, 0, 0, .null, false),
  (72, .aload_n 0, 38, 0, 0, .null, false),
  (73, .iload_n 1, 39, 1, 0, .null, false),
  (74, .iload_n 2, 40, 2, 0, .null, false),
  (75, .iload_n 3, 41, 3, 0, .null, false),
  (76, .iconst 1, 42, 0, 0, .int 1, false),
  (77, .isub, 43, 0, 0, .null, false),
  (78, .iload 5, 44, 5, 0, .null, false),
  (80, .invokevirtual 290, 45, 111, 5, .null, false),
  (83, .istore 6, 46, 6, 0, .null, false),
  (85, .aload_n 0, 47, 0, 0, .null, false),
  (86, .getfield 39, 48, 5, 5, .null, false),
  (89, .getfield 301, 49, 0, 5, .null, false),
  (92, .iload 5, 50, 5, 0, .null, false),
  (94, .dup2, 51, 0, 0, .null, false),
  (95, .iaload, 52, 0, 0, .null, false),
  (96, .iconst 1, 53, 0, 0, .int 1, false),
  (97, .isub, 54, 0, 0, .null, false),
  (98, .iastore, 55, 0, 0, .null, false),
  (99, .iload 6, 56, 6, 0, .null, false),
  (101, .ifCond .eq 15, 57, 66, 0, .null, false),
  (104, .aload_n 0, 58, 0, 0, .null, false),
  (105, .getfield 50, 59, 5, 7, .null, false),
  (108, .iload_n 3, 60, 3, 0, .null, false),
  (109, .iconst 1, 61, 0, 0, .int 1, false),
  (110, .isub, 62, 0, 0, .null, false),
  (111, .iload 5, 63, 5, 0, .null, false),
  (113, .iastore, 64, 0, 0, .null, false)]
def q_X5_canReach_2 : List mm_N := [(114, .iconst 1, 65, 0, 0, .int 1, false),
  (115, .ireturn, 0, 0, 0, .null, false),
  (116, .iinc 5 1, 67, 5, 0, .int 1, true),
  (119, .goto (-85), 0, 18, 0, .null, false),
  (122, .iconst 0, 69, 0, 0, .int 0, false),
  (123, .ireturn, 0, 0, 0, .null, false)]
def q_X5_canReach : List (List mm_N) := [q_X5_canReach_0, q_X5_canReach_1, q_X5_canReach_2]
def q_X5_changedWithout_0 : List mm_N := [(0, .aload_n 0, 1, 0, 0, .null, false),
  (1, .iconst 0, 2, 0, 0, .int 0, false),
  (2, .invokevirtual 168, 3, 109, 2, .null, false),
  (5, .aload_n 0, 4, 0, 0, .null, false),
  (6, .getfield 46, 5, 5, 6, .null, false),
  (9, .invokevirtual 209, 6, 47, 1, .null, false),
  (12, .istore_n 2, 7, 2, 0, .null, false),
  (13, .aload_n 0, 8, 0, 0, .null, false),
  (14, .getfield 46, 9, 5, 6, .null, false),
  (17, .invokevirtual 206, 10, 48, 1, .null, false),
  (20, .istore_n 3, 11, 3, 0, .null, false),
  (21, .aload_n 0, 12, 0, 0, .null, false),
  (22, .iload_n 1, 13, 1, 0, .null, false),
  (23, .invokevirtual 168, 14, 109, 2, .null, false),
  (26, .iload_n 2, 15, 2, 0, .null, false),
  (27, .aload_n 0, 16, 0, 0, .null, false),
  (28, .getfield 46, 17, 5, 6, .null, false),
  (31, .invokevirtual 209, 18, 47, 1, .null, false),
  (34, .ixor, 19, 0, 0, .null, false),
  (35, .iload_n 3, 20, 3, 0, .null, false),
  (36, .aload_n 0, 21, 0, 0, .null, false),
  (37, .getfield 46, 22, 5, 6, .null, false),
  (40, .invokevirtual 206, 23, 48, 1, .null, false),
  (43, .ixor, 24, 0, 0, .null, false),
  (44, .ior, 25, 0, 0, .null, false),
  (45, .istore 4, 26, 4, 0, .null, false),
  (47, .iload 4, 27, 4, 0, .null, false),
  (49, .iload_n 1, 28, 1, 0, .null, false),
  (50, .iconst (-1), 29, 0, 0, .int (-1), false),
  (51, .ixor, 30, 0, 0, .null, false),
  (52, .iand, 31, 0, 0, .null, false),
  (53, .invokestatic 163, 32, 208, 1, .null, false)]
def q_X5_changedWithout_1 : List mm_N := [(56, .ireturn, 0, 0, 0, .null, false)]
def q_X5_changedWithout : List (List mm_N) := [q_X5_changedWithout_0, q_X5_changedWithout_1]
def q_X5_fileByLot_0 : List mm_N := [(0, .iload_n 1, 1, 1, 0, .null, false),
  (1, .iconst 3, 2, 0, 0, .int 3, false),
  (2, .ishr, 3, 0, 0, .null, false),
  (3, .bipush 10, 4, 0, 0, .int 10, false),
  (5, .irem, 5, 0, 0, .null, false),
  (6, .istore_n 2, 6, 2, 0, .null, false),
  (7, .iconst 0, 7, 0, 0, .int 0, false),
  (8, .istore_n 3, 8, 3, 0, .null, false),
  (9, .iconst 0, 9, 0, 0, .int 0, false),
  (10, .istore 4, 10, 4, 0, .null, false),
  (12, .iload 4, 11, 4, 0, .null, true),
  (14, .aload_n 0, 12, 0, 0, .null, false),
  (15, .getfield 21, 13, 5, 2, .null, false),
  (18, .getfield 140, 14, 1, 6, .null, false),
  (21, .if_icmp .ge 30, 15, 29, 0, .null, false),
  (24, .iload_n 3, 16, 3, 0, .null, false),
  (25, .aload_n 0, 17, 0, 0, .null, false),
  (26, .getfield 21, 18, 5, 2, .null, false),
  (29, .iload 4, 19, 4, 0, .null, false),
  (31, .iload_n 2, 20, 2, 0, .null, false),
  (32, .invokevirtual 180, 21, 10, 3, .null, false),
  (35, .ifCond .eq 7, 22, 24, 0, .null, false),
  (38, .iconst 1, 23, 0, 0, .int 1, false),
  (39, .goto 4, 0, 25, 0, .null, false),
  (42, .iconst 0, 25, 0, 0, .int 0, false),
  (43, .iadd, 26, 0, 0, .null, true),
  (44, .istore_n 3, 27, 3, 0, .null, false),
  (45, .iinc 4 1, 28, 4, 0, .int 1, false),
  (48, .goto (-36), 0, 10, 0, .null, false),
  (51, .bipush (-9), 30, 0, 0, .int (-9), false),
  (53, .istore 4, 31, 4, 0, .null, false),
  (55, .iconst 0, 32, 0, 0, .int 0, false)]
def q_X5_fileByLot_1 : List mm_N := [(56, .istore 5, 33, 5, 0, .null, false),
  (58, .iload_n 3, 34, 3, 0, .null, false),
  (59, .ifCond .le 35, 35, 55, 0, .null, false),
  (62, .aload_n 0, 36, 0, 0, .null, false),
  (63, .getfield 21, 37, 5, 2, .null, false),
  (66, .iload_n 1, 38, 1, 0, .null, false),
  (67, .bipush 8, 39, 0, 0, .int 8, false),
  (69, .ishr, 40, 0, 0, .null, false),
  (70, .iload_n 3, 41, 3, 0, .null, false),
  (71, .irem, 42, 0, 0, .null, false),
  (72, .iload_n 2, 43, 2, 0, .null, false),
  (73, .invokevirtual 304, 44, 11, 3, .null, false),
  (76, .istore 4, 45, 4, 0, .null, false),
  (78, .iload_n 1, 46, 1, 0, .null, false),
  (79, .bipush 14, 47, 0, 0, .int 14, false),
  (81, .ishr, 48, 0, 0, .null, false),
  (82, .iconst 2, 49, 0, 0, .int 2, false),
  (83, .irem, 50, 0, 0, .null, false),
  (84, .ifCond .ne 7, 51, 53, 0, .null, false),
  (87, .iconst (-1), 52, 0, 0, .int (-1), false),
  (88, .goto 4, 0, 54, 0, .null, false),
  (91, .iconst 1, 54, 0, 0, .int 1, false),
  (92, .istore 5, 55, 5, 0, .null, true),
  (94, .aload_n 0, 56, 0, 0, .null, true),
  (95, .getfield 21, 57, 5, 2, .null, false),
  (98, .iload_n 1, 58, 1, 0, .null, false),
  (99, .bipush 6, 59, 0, 0, .int 6, false),
  (101, .irem, 60, 0, 0, .null, false),
  (102, .iload_n 2, 61, 2, 0, .null, false),
  (103, .iload_n 1, 62, 1, 0, .null, false),
  (104, .bipush 7, 63, 0, 0, .int 7, false),
  (106, .ishr, 64, 0, 0, .null, false)]
def q_X5_fileByLot_2 : List mm_N := [(107, .iconst 2, 65, 0, 0, .int 2, false),
  (108, .irem, 66, 0, 0, .null, false),
  (109, .iload 4, 67, 4, 0, .null, false),
  (111, .iload 5, 68, 5, 0, .null, false),
  (113, .iconst 0, 69, 0, 0, .int 0, false),
  (114, .invokevirtual 183, 70, 12, 7, .null, false),
  (117, .return_, 0, 0, 0, .null, false)]
def q_X5_fileByLot : List (List mm_N) := [q_X5_fileByLot_0, q_X5_fileByLot_1, q_X5_fileByLot_2]
def q_X5_countOf_0 : List mm_N := [(0, .iload_n 1, 1, 1, 0, .null, false),
  (1, .tableswitch 76 5 7 #[27, 35, 43], 0, 0, 31, .null, false),
  (28, .aload_n 0, 3, 0, 0, .null, false),
  (29, .getfield 11, 4, 5, 0, .null, false),
  (32, .invokestatic 307, 5, 115, 1, .null, false),
  (35, .ireturn, 0, 0, 0, .null, false),
  (36, .aload_n 0, 7, 0, 0, .null, false),
  (37, .getfield 15, 8, 5, 1, .null, false),
  (40, .invokestatic 307, 9, 115, 1, .null, false),
  (43, .ireturn, 0, 0, 0, .null, false),
  (44, .iconst 0, 11, 0, 0, .int 0, false),
  (45, .istore_n 2, 12, 2, 0, .null, false),
  (46, .iconst 0, 13, 0, 0, .int 0, false),
  (47, .istore_n 3, 14, 3, 0, .null, false),
  (48, .iload_n 3, 15, 3, 0, .null, true),
  (49, .iconst 3, 16, 0, 0, .int 3, false),
  (50, .if_icmp .ge 25, 17, 29, 0, .null, false),
  (53, .iload_n 2, 18, 2, 0, .null, false),
  (54, .aload_n 0, 19, 0, 0, .null, false),
  (55, .iload_n 3, 20, 3, 0, .null, false),
  (56, .invokevirtual 187, 21, 108, 2, .null, false),
  (59, .ifCond .eq 7, 22, 24, 0, .null, false),
  (62, .iconst 1, 23, 0, 0, .int 1, false),
  (63, .goto 4, 0, 25, 0, .null, false),
  (66, .iconst 0, 25, 0, 0, .int 0, false),
  (67, .iadd, 26, 0, 0, .null, true),
  (68, .istore_n 2, 27, 2, 0, .null, false),
  (69, .iinc 3 1, 28, 3, 0, .int 1, false),
  (72, .goto (-24), 0, 14, 0, .null, false),
  (75, .iload_n 2, 30, 2, 0, .null, false),
  (76, .ireturn, 0, 0, 0, .null, false),
  (77, .aload_n 0, 32, 0, 0, .null, false)]
def q_X5_countOf_1 : List mm_N := [(78, .getfield 21, 33, 5, 2, .null, false),
  (81, .iload_n 1, 34, 1, 0, .null, false),
  (82, .invokevirtual 311, 35, 21, 2, .null, false),
  (85, .ireturn, 0, 0, 0, .null, false)]
def q_X5_countOf : List (List mm_N) := [q_X5_countOf_0, q_X5_countOf_1]
def q_X5_there_0 : List mm_N := [(0, .iconst 0, 1, 0, 0, .int 0, false),
  (1, .istore_n 1, 2, 1, 0, .null, false),
  (2, .iconst 0, 3, 0, 0, .int 0, false),
  (3, .istore_n 2, 4, 2, 0, .null, false),
  (4, .iload_n 2, 5, 2, 0, .null, true),
  (5, .aload_n 0, 6, 0, 0, .null, false),
  (6, .arraylength, 7, 0, 0, .null, false),
  (7, .if_icmp .ge 26, 8, 21, 0, .null, false),
  (10, .iload_n 1, 9, 1, 0, .null, false),
  (11, .aload_n 0, 10, 0, 0, .null, false),
  (12, .iload_n 2, 11, 2, 0, .null, false),
  (13, .aaload, 12, 0, 0, .null, false),
  (14, .invokevirtual 97, 13, 35, 1, .null, false),
  (17, .ifCond .eq 7, 14, 16, 0, .null, false),
  (20, .iconst 0, 15, 0, 0, .int 0, false),
  (21, .goto 4, 0, 17, 0, .null, false),
  (24, .iconst 1, 17, 0, 0, .int 1, false),
  (25, .iadd, 18, 0, 0, .null, true),
  (26, .istore_n 1, 19, 1, 0, .null, false),
  (27, .iinc 2 1, 20, 2, 0, .int 1, false),
  (30, .goto (-26), 0, 4, 0, .null, false),
  (33, .iload_n 1, 22, 1, 0, .null, false),
  (34, .ireturn, 0, 0, 0, .null, false)]
def q_X5_there : List (List mm_N) := [q_X5_there_0]
def q_X6_init_0 : List mm_N := [(0, .aload_n 0, 1, 0, 0, .null, false),
  (1, .invokespecial 1, 2, 1000, 1, .null, false),
  (4, .aload_n 0, 3, 0, 0, .null, false),
  (5, .bipush 6, 4, 0, 0, .int 6, false),
  (7, .newarray .int, 5, 0, 0, .null, false),
  (9, .putfield 7, 6, 6, 0, .null, false),
  (12, .aload_n 0, 7, 0, 0, .null, false),
  (13, .sipush 240, 8, 0, 0, .int 240, false),
  (16, .newarray .int, 9, 0, 0, .null, false),
  (18, .putfield 13, 10, 6, 1, .null, false),
  (21, .aload_n 0, 11, 0, 0, .null, false),
  (22, .iconst 4, 12, 0, 0, .int 4, false),
  (23, .newarray .int, 13, 0, 0, .null, false),
  (25, .putfield 16, 14, 6, 2, .null, false),
  (28, .aload_n 0, 15, 0, 0, .null, false),
  (29, .sipush 320, 16, 0, 0, .int 320, false),
  (32, .newarray .int, 17, 0, 0, .null, false),
  (34, .putfield 19, 18, 6, 3, .null, false),
  (37, .aload_n 0, 19, 0, 0, .null, false),
  (38, .bipush 40, 20, 0, 0, .int 40, false),
  (40, .newarray .int, 21, 0, 0, .null, false),
  (42, .putfield 22, 22, 6, 4, .null, false),
  (45, .aload_n 0, 23, 0, 0, .null, false),
  (46, .bipush 6, 24, 0, 0, .int 6, false),
  (48, .newarray .int, 25, 0, 0, .null, false),
  (50, .putfield 25, 26, 6, 6, .null, false),
  (53, .aload_n 0, 27, 0, 0, .null, false),
  (54, .lconst 1, 28, 0, 0, .long 1, false),
  (55, .putfield 28, 29, 6, 9, .null, false),
  (58, .aload_n 0, 30, 0, 0, .null, false),
  (59, .bipush 9, 31, 0, 0, .int 9, false),
  (61, .newarray .int, 32, 0, 0, .null, false)]
def q_X6_init_1 : List mm_N := [(63, .putfield 32, 33, 6, 11, .null, false),
  (66, .aload_n 0, 34, 0, 0, .null, false),
  (67, .bipush 9, 35, 0, 0, .int 9, false),
  (69, .newarray .int, 36, 0, 0, .null, false),
  (71, .putfield 35, 37, 6, 12, .null, false),
  (74, .aload_n 0, 38, 0, 0, .null, false),
  (75, .bipush 9, 39, 0, 0, .int 9, false),
  (77, .newarray .int, 40, 0, 0, .null, false),
  (79, .putfield 38, 41, 6, 13, .null, false),
  (82, .aload_n 0, 42, 0, 0, .null, false),
  (83, .bipush 9, 43, 0, 0, .int 9, false),
  (85, .newarray .int, 44, 0, 0, .null, false),
  (87, .putfield 41, 45, 6, 14, .null, false),
  (90, .aload_n 0, 46, 0, 0, .null, false),
  (91, .bipush 9, 47, 0, 0, .int 9, false),
  (93, .newarray .int, 48, 0, 0, .null, false),
  (95, .putfield 44, 49, 6, 15, .null, false),
  (98, .aload_n 0, 50, 0, 0, .null, false),
  (99, .bipush 9, 51, 0, 0, .int 9, false),
  (101, .newarray .int, 52, 0, 0, .null, false),
  (103, .putfield 47, 53, 6, 16, .null, false),
  (106, .aload_n 0, 54, 0, 0, .null, false),
  (107, .iconst 3, 55, 0, 0, .int 3, false),
  (108, .newarray .int, 56, 0, 0, .null, false),
  (110, .putfield 50, 57, 6, 17, .null, false),
  (113, .aload_n 0, 58, 0, 0, .null, false),
  (114, .sipush 162, 59, 0, 0, .int 162, false),
  (117, .newarray .int, 60, 0, 0, .null, false),
  (119, .putfield 53, 61, 6, 18, .null, false),
  (122, .aload_n 0, 62, 0, 0, .null, false),
  (123, .bipush 9, 63, 0, 0, .int 9, false),
  (125, .newarray .int, 64, 0, 0, .null, false)]
def q_X6_init_2 : List mm_N := [(127, .putfield 56, 65, 6, 20, .null, false),
  (130, .aload_n 0, 66, 0, 0, .null, false),
  (131, .bipush 6, 67, 0, 0, .int 6, false),
  (133, .newarray .int, 68, 0, 0, .null, false),
  (135, .putfield 59, 69, 6, 23, .null, false),
  (138, .aload_n 0, 70, 0, 0, .null, false),
  (139, .bipush 9, 71, 0, 0, .int 9, false),
  (141, .newarray .int, 72, 0, 0, .null, false),
  (143, .putfield 62, 73, 6, 24, .null, false),
  (146, .iconst 0, 74, 0, 0, .int 0, false),
  (147, .istore_n 1, 75, 1, 0, .null, false),
  (148, .iload_n 1, 76, 1, 0, .null, true),
  (149, .bipush 6, 77, 0, 0, .int 6, false),
  (151, .if_icmp .ge 17, 78, 85, 0, .null, false),
  (154, .aload_n 0, 79, 0, 0, .null, false),
  (155, .getfield 7, 80, 6, 0, .null, false),
  (158, .iload_n 1, 81, 1, 0, .null, false),
  (159, .bipush (-9), 82, 0, 0, .int (-9), false),
  (161, .iastore, 83, 0, 0, .null, false),
  (162, .iinc 1 1, 84, 1, 0, .int 1, false),
  (165, .goto (-17), 0, 75, 0, .null, false),
  (168, .iconst 0, 86, 0, 0, .int 0, false),
  (169, .istore_n 1, 87, 1, 0, .null, false),
  (170, .iload_n 1, 88, 1, 0, .null, true),
  (171, .iconst 4, 89, 0, 0, .int 4, false),
  (172, .if_icmp .ge 17, 90, 97, 0, .null, false),
  (175, .aload_n 0, 91, 0, 0, .null, false),
  (176, .getfield 16, 92, 6, 2, .null, false),
  (179, .iload_n 1, 93, 1, 0, .null, false),
  (180, .bipush (-9), 94, 0, 0, .int (-9), false),
  (182, .iastore, 95, 0, 0, .null, false),
  (183, .iinc 1 1, 96, 1, 0, .int 1, false)]
def q_X6_init_3 : List mm_N := [(186, .goto (-16), 0, 87, 0, .null, false),
  (189, .iconst 0, 98, 0, 0, .int 0, false),
  (190, .istore_n 1, 99, 1, 0, .null, false),
  (191, .iload_n 1, 100, 1, 0, .null, true),
  (192, .iconst 3, 101, 0, 0, .int 3, false),
  (193, .if_icmp .ge 17, 102, 109, 0, .null, false),
  (196, .aload_n 0, 103, 0, 0, .null, false),
  (197, .getfield 50, 104, 6, 17, .null, false),
  (200, .iload_n 1, 105, 1, 0, .null, false),
  (201, .bipush (-9), 106, 0, 0, .int (-9), false),
  (203, .iastore, 107, 0, 0, .null, false),
  (204, .iinc 1 1, 108, 1, 0, .int 1, false),
  (207, .goto (-16), 0, 99, 0, .null, false),
  (210, .return_, 0, 0, 0, .null, false)]
def q_X6_init : List (List mm_N) := [q_X6_init_0, q_X6_init_1, q_X6_init_2, q_X6_init_3]
def q_X6_in_0 : List mm_N := [(0, .iload_n 0, 1, 0, 0, .null, false),
  (1, .iload_n 1, 2, 1, 0, .null, false),
  (2, .if_icmp .lt 12, 3, 8, 0, .null, false),
  (5, .iload_n 0, 4, 0, 0, .null, false),
  (6, .iload_n 2, 5, 2, 0, .null, false),
  (7, .if_icmp .gt 7, 6, 8, 0, .null, false),
  (10, .iconst 1, 7, 0, 0, .int 1, false),
  (11, .goto 4, 0, 9, 0, .null, false),
  (14, .iconst 0, 9, 0, 0, .int 0, true),
  (15, .ireturn, 0, 0, 0, .null, true)]
def q_X6_in : List (List mm_N) := [q_X6_in_0]
def q_X6_has_0 : List mm_N := [(0, .iload_n 0, 1, 0, 0, .null, false),
  (1, .iload_n 1, 2, 1, 0, .null, false),
  (2, .ishr, 3, 0, 0, .null, false),
  (3, .iconst 1, 4, 0, 0, .int 1, false),
  (4, .iand, 5, 0, 0, .null, false),
  (5, .iconst 1, 6, 0, 0, .int 1, false),
  (6, .if_icmp .ne 7, 7, 9, 0, .null, false),
  (9, .iconst 1, 8, 0, 0, .int 1, false),
  (10, .goto 4, 0, 10, 0, .null, false),
  (13, .iconst 0, 10, 0, 0, .int 0, false),
  (14, .ireturn, 0, 0, 0, .null, true)]
def q_X6_has : List (List mm_N) := [q_X6_has_0]
def q_X6_ones_0 : List mm_N := [(0, .iconst 0, 1, 0, 0, .int 0, false),
  (1, .istore_n 1, 2, 1, 0, .null, false),
  (2, .iconst 0, 3, 0, 0, .int 0, false),
  (3, .istore_n 2, 4, 2, 0, .null, false),
  (4, .iload_n 2, 5, 2, 0, .null, true),
  (5, .bipush 9, 6, 0, 0, .int 9, false),
  (7, .if_icmp .ge 17, 7, 17, 0, .null, false),
  (10, .iload_n 1, 8, 1, 0, .null, false),
  (11, .iload_n 0, 9, 0, 0, .null, false),
  (12, .iload_n 2, 10, 2, 0, .null, false),
  (13, .ishr, 11, 0, 0, .null, false),
  (14, .iconst 1, 12, 0, 0, .int 1, false),
  (15, .iand, 13, 0, 0, .null, false),
  (16, .iadd, 14, 0, 0, .null, false),
  (17, .istore_n 1, 15, 1, 0, .null, false),
  (18, .iinc 2 1, 16, 2, 0, .int 1, false),
  (21, .goto (-17), 0, 4, 0, .null, false),
  (24, .iload_n 1, 18, 1, 0, .null, false),
  (25, .ireturn, 0, 0, 0, .null, false)]
def q_X6_ones : List (List mm_N) := [q_X6_ones_0]
def q_X6_finds_0 : List mm_N := [(0, .aload_n 0, 1, 0, 0, .null, false),
  (1, .iload_n 1, 2, 1, 0, .null, false),
  (2, .putfield 65, 3, 6, 5, .null, false),
  (5, .aload_n 0, 4, 0, 0, .null, false),
  (6, .getfield 25, 5, 6, 6, .null, false),
  (9, .iload_n 1, 6, 1, 0, .null, false),
  (10, .dup2, 7, 0, 0, .null, false),
  (11, .iaload, 8, 0, 0, .null, false),
  (12, .iconst 1, 9, 0, 0, .int 1, false),
  (13, .iadd, 10, 0, 0, .null, false),
  (14, .iastore, 11, 0, 0, .null, false),
  (15, .bipush (-3), 12, 0, 0, .int (-3), false),
  (17, .ireturn, 0, 0, 0, .null, false)]
def q_X6_finds : List (List mm_N) := [q_X6_finds_0]
def q_X6_tells_0 : List mm_N := [(0, .aload_n 0, 1, 0, 0, .null, false),
  (1, .iload_n 1, 2, 1, 0, .null, false),
  (2, .putfield 69, 3, 6, 7, .null, false),
  (5, .iconst 1, 4, 0, 0, .int 1, false),
  (6, .ireturn, 0, 0, 0, .null, false)]
def q_X6_tells : List (List mm_N) := [q_X6_tells_0]
def q_X6_isRow_0 : List mm_N := [(0, .iload_n 0, 1, 0, 0, .null, false),
  (1, .iconst 0, 2, 0, 0, .int 0, false),
  (2, .iconst 5, 3, 0, 0, .int 5, false),
  (3, .invokestatic 72, 4, 117, 3, .null, false),
  (6, .ireturn, 0, 0, 0, .null, false)]
def q_X6_isRow : List (List mm_N) := [q_X6_isRow_0]
def q_X6_isText_0 : List mm_N := [(0, .iload_n 0, 1, 0, 0, .null, false),
  (1, .iconst 0, 2, 0, 0, .int 0, false),
  (2, .iconst 3, 3, 0, 0, .int 3, false),
  (3, .invokestatic 72, 4, 117, 3, .null, false),
  (6, .ireturn, 0, 0, 0, .null, false)]
def q_X6_isText : List (List mm_N) := [q_X6_isText_0]
def q_X6_row_0 : List mm_N := [(0, .iload_n 1, 1, 1, 0, .null, false),
  (1, .invokestatic 76, 2, 122, 1, .null, false),
  (4, .ifCond .eq 9, 3, 6, 0, .null, false),
  (7, .iload_n 2, 4, 2, 0, .null, false),
  (8, .bipush 40, 5, 0, 0, .int 40, false),
  (10, .if_icmp .le 5, 6, 8, 0, .null, false),
  (13, .iconst (-1), 7, 0, 0, .int (-1), true),
  (14, .ireturn, 0, 0, 0, .null, false),
  (15, .iload_n 2, 9, 2, 0, .null, false),
  (16, .ifCond .ge 9, 10, 14, 0, .null, false),
  (19, .aload_n 0, 11, 0, 0, .null, false),
  (20, .iconst 5, 12, 0, 0, .int 5, false),
  (21, .invokevirtual 80, 13, 120, 2, .null, false),
  (24, .ireturn, 0, 0, 0, .null, false),
  (25, .aload_n 0, 15, 0, 0, .null, false),
  (26, .getfield 7, 16, 6, 0, .null, false),
  (29, .iload_n 1, 17, 1, 0, .null, false),
  (30, .iload_n 2, 18, 2, 0, .null, false),
  (31, .iastore, 19, 0, 0, .null, false),
  (32, .iconst 0, 20, 0, 0, .int 0, false),
  (33, .istore_n 3, 21, 3, 0, .null, false),
  (34, .iload_n 3, 22, 3, 0, .null, true),
  (35, .bipush 40, 23, 0, 0, .int 40, false),
  (37, .if_icmp .ge 21, 24, 35, 0, .null, false),
  (40, .aload_n 0, 25, 0, 0, .null, false),
  (41, .getfield 13, 26, 6, 1, .null, false),
  (44, .bipush 40, 27, 0, 0, .int 40, false),
  (46, .iload_n 1, 28, 1, 0, .null, false),
  (47, .imul, 29, 0, 0, .null, false),
  (48, .iload_n 3, 30, 3, 0, .null, false),
  (49, .iadd, 31, 0, 0, .null, false),
  (50, .iconst 0, 32, 0, 0, .int 0, false)]
def q_X6_row_1 : List mm_N := [(51, .iastore, 33, 0, 0, .null, false),
  (52, .iinc 3 1, 34, 3, 0, .int 1, false),
  (55, .goto (-21), 0, 21, 0, .null, false),
  (58, .iload_n 2, 36, 2, 0, .null, false),
  (59, .ireturn, 0, 0, 0, .null, false)]
def q_X6_row : List (List mm_N) := [q_X6_row_0, q_X6_row_1]
def q_X6_lay_0 : List mm_N := [(0, .iload_n 1, 1, 1, 0, .null, false),
  (1, .invokestatic 76, 2, 122, 1, .null, false),
  (4, .ifCond .ne 5, 3, 5, 0, .null, false),
  (7, .iconst (-1), 4, 0, 0, .int (-1), false),
  (8, .ireturn, 0, 0, 0, .null, false),
  (9, .aload_n 0, 6, 0, 0, .null, false),
  (10, .getfield 7, 7, 6, 0, .null, false),
  (13, .iload_n 1, 8, 1, 0, .null, false),
  (14, .iaload, 9, 0, 0, .null, false),
  (15, .ifCond .ge 9, 10, 14, 0, .null, false),
  (18, .aload_n 0, 11, 0, 0, .null, false),
  (19, .iconst 1, 12, 0, 0, .int 1, false),
  (20, .invokevirtual 80, 13, 120, 2, .null, false),
  (23, .ireturn, 0, 0, 0, .null, false),
  (24, .iload_n 2, 15, 2, 0, .null, false),
  (25, .iconst 0, 16, 0, 0, .int 0, false),
  (26, .aload_n 0, 17, 0, 0, .null, false),
  (27, .getfield 7, 18, 6, 0, .null, false),
  (30, .iload_n 1, 19, 1, 0, .null, false),
  (31, .iaload, 20, 0, 0, .null, false),
  (32, .iconst 1, 21, 0, 0, .int 1, false),
  (33, .isub, 22, 0, 0, .null, false),
  (34, .invokestatic 72, 23, 117, 3, .null, false),
  (37, .ifCond .ne 9, 24, 28, 0, .null, false),
  (40, .aload_n 0, 25, 0, 0, .null, false),
  (41, .iconst 2, 26, 0, 0, .int 2, false),
  (42, .invokevirtual 80, 27, 120, 2, .null, false),
  (45, .ireturn, 0, 0, 0, .null, false),
  (46, .aload_n 0, 29, 0, 0, .null, false),
  (47, .getfield 13, 30, 6, 1, .null, false),
  (50, .bipush 40, 31, 0, 0, .int 40, false),
  (52, .iload_n 1, 32, 1, 0, .null, false)]
def q_X6_lay_1 : List mm_N := [(53, .imul, 33, 0, 0, .null, false),
  (54, .iload_n 2, 34, 2, 0, .null, false),
  (55, .iadd, 35, 0, 0, .null, false),
  (56, .iaload, 36, 0, 0, .null, false),
  (57, .istore 4, 37, 4, 0, .null, false),
  (59, .aload_n 0, 38, 0, 0, .null, false),
  (60, .getfield 13, 39, 6, 1, .null, false),
  (63, .bipush 40, 40, 0, 0, .int 40, false),
  (65, .iload_n 1, 41, 1, 0, .null, false),
  (66, .imul, 42, 0, 0, .null, false),
  (67, .iload_n 2, 43, 2, 0, .null, false),
  (68, .iadd, 44, 0, 0, .null, false),
  (69, .iload_n 3, 45, 3, 0, .null, false),
  (70, .iastore, 46, 0, 0, .null, false),
  (71, .aload_n 0, 47, 0, 0, .null, false),
  (72, .iload 4, 48, 4, 0, .null, false),
  (74, .invokevirtual 84, 49, 121, 2, .null, false),
  (77, .ireturn, 0, 0, 0, .null, false)]
def q_X6_lay : List (List mm_N) := [q_X6_lay_0, q_X6_lay_1]
def q_X6_at_0 : List mm_N := [(0, .iload_n 1, 1, 1, 0, .null, false),
  (1, .invokestatic 76, 2, 122, 1, .null, false),
  (4, .ifCond .ne 5, 3, 5, 0, .null, false),
  (7, .iconst (-1), 4, 0, 0, .int (-1), false),
  (8, .ireturn, 0, 0, 0, .null, false),
  (9, .aload_n 0, 6, 0, 0, .null, false),
  (10, .getfield 7, 7, 6, 0, .null, false),
  (13, .iload_n 1, 8, 1, 0, .null, false),
  (14, .iaload, 9, 0, 0, .null, false),
  (15, .ifCond .ge 9, 10, 14, 0, .null, false),
  (18, .aload_n 0, 11, 0, 0, .null, false),
  (19, .iconst 1, 12, 0, 0, .int 1, false),
  (20, .invokevirtual 80, 13, 120, 2, .null, false),
  (23, .ireturn, 0, 0, 0, .null, false),
  (24, .iload_n 2, 15, 2, 0, .null, false),
  (25, .iconst 0, 16, 0, 0, .int 0, false),
  (26, .aload_n 0, 17, 0, 0, .null, false),
  (27, .getfield 7, 18, 6, 0, .null, false),
  (30, .iload_n 1, 19, 1, 0, .null, false),
  (31, .iaload, 20, 0, 0, .null, false),
  (32, .iconst 1, 21, 0, 0, .int 1, false),
  (33, .isub, 22, 0, 0, .null, false),
  (34, .invokestatic 72, 23, 117, 3, .null, false),
  (37, .ifCond .eq 21, 24, 35, 0, .null, false),
  (40, .aload_n 0, 25, 0, 0, .null, false),
  (41, .aload_n 0, 26, 0, 0, .null, false),
  (42, .getfield 13, 27, 6, 1, .null, false),
  (45, .bipush 40, 28, 0, 0, .int 40, false),
  (47, .iload_n 1, 29, 1, 0, .null, false),
  (48, .imul, 30, 0, 0, .null, false),
  (49, .iload_n 2, 31, 2, 0, .null, false),
  (50, .iadd, 32, 0, 0, .null, false)]
def q_X6_at_1 : List mm_N := [(51, .iaload, 33, 0, 0, .null, false),
  (52, .invokevirtual 84, 34, 121, 2, .null, false),
  (55, .goto 8, 0, 38, 0, .null, false),
  (58, .aload_n 0, 36, 0, 0, .null, false),
  (59, .iconst 2, 37, 0, 0, .int 2, false),
  (60, .invokevirtual 80, 38, 120, 2, .null, false),
  (63, .ireturn, 0, 0, 0, .null, true)]
def q_X6_at : List (List mm_N) := [q_X6_at_0, q_X6_at_1]
def q_X6_tear_0 : List mm_N := [(0, .iload_n 1, 1, 1, 0, .null, false),
  (1, .invokestatic 76, 2, 122, 1, .null, false),
  (4, .ifCond .ne 5, 3, 5, 0, .null, false),
  (7, .iconst (-1), 4, 0, 0, .int (-1), false),
  (8, .ireturn, 0, 0, 0, .null, false),
  (9, .aload_n 0, 6, 0, 0, .null, false),
  (10, .getfield 7, 7, 6, 0, .null, false),
  (13, .iload_n 1, 8, 1, 0, .null, false),
  (14, .iaload, 9, 0, 0, .null, false),
  (15, .ifCond .ge 9, 10, 14, 0, .null, false),
  (18, .aload_n 0, 11, 0, 0, .null, false),
  (19, .iconst 1, 12, 0, 0, .int 1, false),
  (20, .invokevirtual 80, 13, 120, 2, .null, false),
  (23, .ireturn, 0, 0, 0, .null, false),
  (24, .aload_n 0, 15, 0, 0, .null, false),
  (25, .getfield 7, 16, 6, 0, .null, false),
  (28, .iload_n 1, 17, 1, 0, .null, false),
  (29, .bipush (-9), 18, 0, 0, .int (-9), false),
  (31, .iastore, 19, 0, 0, .null, false),
  (32, .iconst 1, 20, 0, 0, .int 1, false),
  (33, .ireturn, 0, 0, 0, .null, false)]
def q_X6_tear : List (List mm_N) := [q_X6_tear_0]
def q_X6_isPart_0 : List mm_N := [(0, .iload_n 2, 1, 2, 0, .null, false),
  (1, .ifCond .lt 29, 2, 18, 0, .null, false),
  (4, .iload_n 2, 3, 2, 0, .null, false),
  (5, .aload_n 0, 4, 0, 0, .null, false),
  (6, .getfield 7, 5, 6, 0, .null, false),
  (9, .iload_n 1, 6, 1, 0, .null, false),
  (10, .iaload, 7, 0, 0, .null, false),
  (11, .if_icmp .gt 19, 8, 18, 0, .null, false),
  (14, .iload_n 3, 9, 3, 0, .null, false),
  (15, .aload_n 0, 10, 0, 0, .null, false),
  (16, .getfield 7, 11, 6, 0, .null, false),
  (19, .iload_n 1, 12, 1, 0, .null, false),
  (20, .iaload, 13, 0, 0, .null, false),
  (21, .iload_n 2, 14, 2, 0, .null, false),
  (22, .isub, 15, 0, 0, .null, false),
  (23, .if_icmp .gt 7, 16, 18, 0, .null, false),
  (26, .iconst 1, 17, 0, 0, .int 1, false),
  (27, .goto 4, 0, 19, 0, .null, false),
  (30, .iconst 0, 19, 0, 0, .int 0, true),
  (31, .ireturn, 0, 0, 0, .null, true)]
def q_X6_isPart : List (List mm_N) := [q_X6_isPart_0]
def q_X6_copy_0 : List mm_N := [(0, .iload_n 1, 1, 1, 0, .null, false),
  (1, .invokestatic 76, 2, 122, 1, .null, false),
  (4, .ifCond .eq 10, 3, 6, 0, .null, false),
  (7, .iload_n 3, 4, 3, 0, .null, false),
  (8, .invokestatic 76, 5, 122, 1, .null, false),
  (11, .ifCond .ne 5, 6, 8, 0, .null, false),
  (14, .iconst (-1), 7, 0, 0, .int (-1), true),
  (15, .ireturn, 0, 0, 0, .null, false),
  (16, .iload 5, 9, 5, 0, .null, false),
  (18, .ifCond .ge 9, 10, 14, 0, .null, false),
  (21, .aload_n 0, 11, 0, 0, .null, false),
  (22, .iconst 5, 12, 0, 0, .int 5, false),
  (23, .invokevirtual 80, 13, 120, 2, .null, false),
  (26, .ireturn, 0, 0, 0, .null, false),
  (27, .aload_n 0, 15, 0, 0, .null, false),
  (28, .getfield 7, 16, 6, 0, .null, false),
  (31, .iload_n 1, 17, 1, 0, .null, false),
  (32, .iaload, 18, 0, 0, .null, false),
  (33, .ifCond .lt 12, 19, 24, 0, .null, false),
  (36, .aload_n 0, 20, 0, 0, .null, false),
  (37, .getfield 7, 21, 6, 0, .null, false),
  (40, .iload_n 3, 22, 3, 0, .null, false),
  (41, .iaload, 23, 0, 0, .null, false),
  (42, .ifCond .ge 9, 24, 28, 0, .null, false),
  (45, .aload_n 0, 25, 0, 0, .null, true),
  (46, .iconst 1, 26, 0, 0, .int 1, false),
  (47, .invokevirtual 80, 27, 120, 2, .null, false),
  (50, .ireturn, 0, 0, 0, .null, false),
  (51, .aload_n 0, 29, 0, 0, .null, false),
  (52, .iload_n 1, 30, 1, 0, .null, false),
  (53, .iload_n 2, 31, 2, 0, .null, false),
  (54, .iload 5, 32, 5, 0, .null, false)]
def q_X6_copy_1 : List mm_N := [(56, .invokevirtual 87, 33, 128, 4, .null, false),
  (59, .ifCond .eq 15, 34, 40, 0, .null, false),
  (62, .aload_n 0, 35, 0, 0, .null, false),
  (63, .iload_n 3, 36, 3, 0, .null, false),
  (64, .iload 4, 37, 4, 0, .null, false),
  (66, .iload 5, 38, 5, 0, .null, false),
  (68, .invokevirtual 87, 39, 128, 4, .null, false),
  (71, .ifCond .ne 9, 40, 44, 0, .null, false),
  (74, .aload_n 0, 41, 0, 0, .null, true),
  (75, .iconst 2, 42, 0, 0, .int 2, false),
  (76, .invokevirtual 80, 43, 120, 2, .null, false),
  (79, .ireturn, 0, 0, 0, .null, false),
  (80, .iconst 0, 45, 0, 0, .int 0, false),
  (81, .istore 6, 46, 6, 0, .null, false),
  (83, .iload 6, 47, 6, 0, .null, true),
  (85, .iload 5, 48, 5, 0, .null, false),
  (87, .if_icmp .ge 30, 49, 65, 0, .null, false),
  (90, .aload_n 0, 50, 0, 0, .null, false),
  (91, .getfield 22, 51, 6, 4, .null, false),
  (94, .iload 6, 52, 6, 0, .null, false),
  (96, .aload_n 0, 53, 0, 0, .null, false),
  (97, .getfield 13, 54, 6, 1, .null, false),
  (100, .bipush 40, 55, 0, 0, .int 40, false),
  (102, .iload_n 1, 56, 1, 0, .null, false),
  (103, .imul, 57, 0, 0, .null, false),
  (104, .iload_n 2, 58, 2, 0, .null, false),
  (105, .iadd, 59, 0, 0, .null, false),
  (106, .iload 6, 60, 6, 0, .null, false),
  (108, .iadd, 61, 0, 0, .null, false),
  (109, .iaload, 62, 0, 0, .null, false),
  (110, .iastore, 63, 0, 0, .null, false),
  (111, .iinc 6 1, 64, 6, 0, .int 1, false)]
def q_X6_copy_2 : List mm_N := [(114, .goto (-31), 0, 46, 0, .null, false),
  (117, .iconst 0, 66, 0, 0, .int 0, false),
  (118, .istore 6, 67, 6, 0, .null, false),
  (120, .iload 6, 68, 6, 0, .null, true),
  (122, .iload 5, 69, 5, 0, .null, false),
  (124, .if_icmp .ge 31, 70, 86, 0, .null, false),
  (127, .aload_n 0, 71, 0, 0, .null, false),
  (128, .getfield 13, 72, 6, 1, .null, false),
  (131, .bipush 40, 73, 0, 0, .int 40, false),
  (133, .iload_n 3, 74, 3, 0, .null, false),
  (134, .imul, 75, 0, 0, .null, false),
  (135, .iload 4, 76, 4, 0, .null, false),
  (137, .iadd, 77, 0, 0, .null, false),
  (138, .iload 6, 78, 6, 0, .null, false),
  (140, .iadd, 79, 0, 0, .null, false),
  (141, .aload_n 0, 80, 0, 0, .null, false),
  (142, .getfield 22, 81, 6, 4, .null, false),
  (145, .iload 6, 82, 6, 0, .null, false),
  (147, .iaload, 83, 0, 0, .null, false),
  (148, .iastore, 84, 0, 0, .null, false),
  (149, .iinc 6 1, 85, 6, 0, .int 1, false),
  (152, .goto (-32), 0, 67, 0, .null, false),
  (155, .iconst 1, 87, 0, 0, .int 1, false),
  (156, .ireturn, 0, 0, 0, .null, false)]
def q_X6_copy : List (List mm_N) := [q_X6_copy_0, q_X6_copy_1, q_X6_copy_2]
def q_X6_mean_0 : List mm_N := [(0, .iload_n 1, 1, 1, 0, .null, false),
  (1, .invokestatic 76, 2, 122, 1, .null, false),
  (4, .ifCond .ne 5, 3, 5, 0, .null, false),
  (7, .iconst (-1), 4, 0, 0, .int (-1), false),
  (8, .ireturn, 0, 0, 0, .null, false),
  (9, .aload_n 0, 6, 0, 0, .null, false),
  (10, .getfield 7, 7, 6, 0, .null, false),
  (13, .iload_n 1, 8, 1, 0, .null, false),
  (14, .iaload, 9, 0, 0, .null, false),
  (15, .ifCond .ge 9, 10, 14, 0, .null, false),
  (18, .aload_n 0, 11, 0, 0, .null, false),
  (19, .iconst 1, 12, 0, 0, .int 1, false),
  (20, .invokevirtual 80, 13, 120, 2, .null, false),
  (23, .ireturn, 0, 0, 0, .null, false),
  (24, .aload_n 0, 15, 0, 0, .null, false),
  (25, .getfield 7, 16, 6, 0, .null, false),
  (28, .iload_n 1, 17, 1, 0, .null, false),
  (29, .iaload, 18, 0, 0, .null, false),
  (30, .ifCond .ne 9, 19, 23, 0, .null, false),
  (33, .aload_n 0, 20, 0, 0, .null, false),
  (34, .iconst 4, 21, 0, 0, .int 4, false),
  (35, .invokevirtual 80, 22, 120, 2, .null, false),
  (38, .ireturn, 0, 0, 0, .null, false),
  (39, .lconst 0, 24, 0, 0, .long 0, false),
  (40, .lstore_n 2, 25, 2, 0, .null, false),
  (41, .iconst 0, 26, 0, 0, .int 0, false),
  (42, .istore 4, 27, 4, 0, .null, false),
  (44, .iload 4, 28, 4, 0, .null, true),
  (46, .aload_n 0, 29, 0, 0, .null, false),
  (47, .getfield 7, 30, 6, 0, .null, false),
  (50, .iload_n 1, 31, 1, 0, .null, false),
  (51, .iaload, 32, 0, 0, .null, false)]
def q_X6_mean_1 : List mm_N := [(52, .if_icmp .ge 25, 33, 47, 0, .null, false),
  (55, .lload_n 2, 34, 2, 0, .null, false),
  (56, .aload_n 0, 35, 0, 0, .null, false),
  (57, .getfield 13, 36, 6, 1, .null, false),
  (60, .bipush 40, 37, 0, 0, .int 40, false),
  (62, .iload_n 1, 38, 1, 0, .null, false),
  (63, .imul, 39, 0, 0, .null, false),
  (64, .iload 4, 40, 4, 0, .null, false),
  (66, .iadd, 41, 0, 0, .null, false),
  (67, .iaload, 42, 0, 0, .null, false),
  (68, .i2l, 43, 0, 0, .null, false),
  (69, .ladd, 44, 0, 0, .null, false),
  (70, .lstore_n 2, 45, 2, 0, .null, false),
  (71, .iinc 4 1, 46, 4, 0, .int 1, false),
  (74, .goto (-30), 0, 27, 0, .null, false),
  (77, .aload_n 0, 48, 0, 0, .null, false),
  (78, .lload_n 2, 49, 2, 0, .null, false),
  (79, .aload_n 0, 50, 0, 0, .null, false),
  (80, .getfield 7, 51, 6, 0, .null, false),
  (83, .iload_n 1, 52, 1, 0, .null, false),
  (84, .iaload, 53, 0, 0, .null, false),
  (85, .i2l, 54, 0, 0, .null, false),
  (86, .ldiv, 55, 0, 0, .null, false),
  (87, .l2i, 56, 0, 0, .null, false),
  (88, .invokevirtual 84, 57, 121, 2, .null, false),
  (91, .ireturn, 0, 0, 0, .null, false)]
def q_X6_mean : List (List mm_N) := [q_X6_mean_0, q_X6_mean_1]
def q_X6_text_0 : List mm_N := [(0, .iload_n 1, 1, 1, 0, .null, false),
  (1, .invokestatic 90, 2, 123, 1, .null, false),
  (4, .ifCond .eq 9, 3, 6, 0, .null, false),
  (7, .iload_n 2, 4, 2, 0, .null, false),
  (8, .bipush 80, 5, 0, 0, .int 80, false),
  (10, .if_icmp .le 5, 6, 8, 0, .null, false),
  (13, .iconst (-1), 7, 0, 0, .int (-1), true),
  (14, .ireturn, 0, 0, 0, .null, false),
  (15, .iload_n 2, 9, 2, 0, .null, false),
  (16, .ifCond .ge 9, 10, 14, 0, .null, false),
  (19, .aload_n 0, 11, 0, 0, .null, false),
  (20, .iconst 5, 12, 0, 0, .int 5, false),
  (21, .invokevirtual 80, 13, 120, 2, .null, false),
  (24, .ireturn, 0, 0, 0, .null, false),
  (25, .aload_n 0, 15, 0, 0, .null, false),
  (26, .getfield 16, 16, 6, 2, .null, false),
  (29, .iload_n 1, 17, 1, 0, .null, false),
  (30, .iload_n 2, 18, 2, 0, .null, false),
  (31, .iastore, 19, 0, 0, .null, false),
  (32, .iconst 0, 20, 0, 0, .int 0, false),
  (33, .istore_n 3, 21, 3, 0, .null, false),
  (34, .iload_n 3, 22, 3, 0, .null, true),
  (35, .bipush 80, 23, 0, 0, .int 80, false),
  (37, .if_icmp .ge 22, 24, 35, 0, .null, false),
  (40, .aload_n 0, 25, 0, 0, .null, false),
  (41, .getfield 19, 26, 6, 3, .null, false),
  (44, .bipush 80, 27, 0, 0, .int 80, false),
  (46, .iload_n 1, 28, 1, 0, .null, false),
  (47, .imul, 29, 0, 0, .null, false),
  (48, .iload_n 3, 30, 3, 0, .null, false),
  (49, .iadd, 31, 0, 0, .null, false),
  (50, .bipush 32, 32, 0, 0, .int 32, false)]
def q_X6_text_1 : List mm_N := [(52, .iastore, 33, 0, 0, .null, false),
  (53, .iinc 3 1, 34, 3, 0, .int 1, false),
  (56, .goto (-22), 0, 21, 0, .null, false),
  (59, .iload_n 2, 36, 2, 0, .null, false),
  (60, .ireturn, 0, 0, 0, .null, false)]
def q_X6_text : List (List mm_N) := [q_X6_text_0, q_X6_text_1]
def q_X6_put_0 : List mm_N := [(0, .iload_n 1, 1, 1, 0, .null, false),
  (1, .invokestatic 90, 2, 123, 1, .null, false),
  (4, .ifCond .ne 5, 3, 5, 0, .null, false),
  (7, .iconst (-1), 4, 0, 0, .int (-1), false),
  (8, .ireturn, 0, 0, 0, .null, false),
  (9, .aload_n 0, 6, 0, 0, .null, false),
  (10, .getfield 16, 7, 6, 2, .null, false),
  (13, .iload_n 1, 8, 1, 0, .null, false),
  (14, .iaload, 9, 0, 0, .null, false),
  (15, .ifCond .ge 9, 10, 14, 0, .null, false),
  (18, .aload_n 0, 11, 0, 0, .null, false),
  (19, .iconst 1, 12, 0, 0, .int 1, false),
  (20, .invokevirtual 80, 13, 120, 2, .null, false),
  (23, .ireturn, 0, 0, 0, .null, false),
  (24, .iload_n 2, 15, 2, 0, .null, false),
  (25, .iconst 0, 16, 0, 0, .int 0, false),
  (26, .aload_n 0, 17, 0, 0, .null, false),
  (27, .getfield 16, 18, 6, 2, .null, false),
  (30, .iload_n 1, 19, 1, 0, .null, false),
  (31, .iaload, 20, 0, 0, .null, false),
  (32, .iconst 1, 21, 0, 0, .int 1, false),
  (33, .isub, 22, 0, 0, .null, false),
  (34, .invokestatic 72, 23, 117, 3, .null, false),
  (37, .ifCond .ne 9, 24, 28, 0, .null, false),
  (40, .aload_n 0, 25, 0, 0, .null, false),
  (41, .iconst 2, 26, 0, 0, .int 2, false),
  (42, .invokevirtual 80, 27, 120, 2, .null, false),
  (45, .ireturn, 0, 0, 0, .null, false),
  (46, .aload_n 0, 29, 0, 0, .null, false),
  (47, .getfield 19, 30, 6, 3, .null, false),
  (50, .bipush 80, 31, 0, 0, .int 80, false),
  (52, .iload_n 1, 32, 1, 0, .null, false)]
def q_X6_put_1 : List mm_N := [(53, .imul, 33, 0, 0, .null, false),
  (54, .iload_n 2, 34, 2, 0, .null, false),
  (55, .iadd, 35, 0, 0, .null, false),
  (56, .iaload, 36, 0, 0, .null, false),
  (57, .istore 4, 37, 4, 0, .null, false),
  (59, .aload_n 0, 38, 0, 0, .null, false),
  (60, .getfield 19, 39, 6, 3, .null, false),
  (63, .bipush 80, 40, 0, 0, .int 80, false),
  (65, .iload_n 1, 41, 1, 0, .null, false),
  (66, .imul, 42, 0, 0, .null, false),
  (67, .iload_n 2, 43, 2, 0, .null, false),
  (68, .iadd, 44, 0, 0, .null, false),
  (69, .iload_n 3, 45, 3, 0, .null, false),
  (70, .bipush 24, 46, 0, 0, .int 24, false),
  (72, .ishl, 47, 0, 0, .null, false),
  (73, .bipush 24, 48, 0, 0, .int 24, false),
  (75, .ishr, 49, 0, 0, .null, false),
  (76, .iastore, 50, 0, 0, .null, false),
  (77, .sipush 1000, 51, 0, 0, .int 1000, false),
  (80, .iload 4, 52, 4, 0, .null, false),
  (82, .iadd, 53, 0, 0, .null, false),
  (83, .ireturn, 0, 0, 0, .null, false)]
def q_X6_put : List (List mm_N) := [q_X6_put_0, q_X6_put_1]
def q_X6_byteAt_0 : List mm_N := [(0, .iload_n 2, 1, 2, 0, .null, false),
  (1, .aload_n 0, 2, 0, 0, .null, false),
  (2, .getfield 16, 3, 6, 2, .null, false),
  (5, .iload_n 1, 4, 1, 0, .null, false),
  (6, .iaload, 5, 0, 0, .null, false),
  (7, .if_icmp .ge 17, 6, 15, 0, .null, false),
  (10, .aload_n 0, 7, 0, 0, .null, false),
  (11, .getfield 19, 8, 6, 3, .null, false),
  (14, .bipush 80, 9, 0, 0, .int 80, false),
  (16, .iload_n 1, 10, 1, 0, .null, false),
  (17, .imul, 11, 0, 0, .null, false),
  (18, .iload_n 2, 12, 2, 0, .null, false),
  (19, .iadd, 13, 0, 0, .null, false),
  (20, .iaload, 14, 0, 0, .null, false),
  (21, .goto 5, 0, 16, 0, .null, false),
  (24, .bipush (-9), 16, 0, 0, .int (-9), false),
  (26, .ireturn, 0, 0, 0, .null, true)]
def q_X6_byteAt : List (List mm_N) := [q_X6_byteAt_0]
def q_X6_kindOf_0 : List mm_N := [(0, .iload_n 0, 1, 0, 0, .null, false),
  (1, .bipush 114, 2, 0, 0, .int 114, false),
  (3, .if_icmp .ne 7, 3, 5, 0, .null, false),
  (6, .iconst 0, 4, 0, 0, .int 0, false),
  (7, .goto 55, 0, 31, 0, .null, false),
  (10, .iload_n 0, 6, 0, 0, .null, false),
  (11, .bipush 98, 7, 0, 0, .int 98, false),
  (13, .if_icmp .ne 7, 8, 10, 0, .null, false),
  (16, .iconst 1, 9, 0, 0, .int 1, false),
  (17, .goto 45, 0, 31, 0, .null, false),
  (20, .iload_n 0, 11, 0, 0, .null, false),
  (21, .bipush 102, 12, 0, 0, .int 102, false),
  (23, .if_icmp .ne 7, 13, 15, 0, .null, false),
  (26, .iconst 2, 14, 0, 0, .int 2, false),
  (27, .goto 35, 0, 31, 0, .null, false),
  (30, .iload_n 0, 16, 0, 0, .null, false),
  (31, .bipush 117, 17, 0, 0, .int 117, false),
  (33, .if_icmp .ne 7, 18, 20, 0, .null, false),
  (36, .iconst 3, 19, 0, 0, .int 3, false),
  (37, .goto 25, 0, 31, 0, .null, false),
  (40, .iload_n 0, 21, 0, 0, .null, false),
  (41, .bipush 99, 22, 0, 0, .int 99, false),
  (43, .if_icmp .ne 7, 23, 25, 0, .null, false),
  (46, .iconst 4, 24, 0, 0, .int 4, false),
  (47, .goto 15, 0, 31, 0, .null, false),
  (50, .iload_n 0, 26, 0, 0, .null, false),
  (51, .bipush 107, 27, 0, 0, .int 107, false),
  (53, .if_icmp .ne 7, 28, 30, 0, .null, false),
  (56, .iconst 5, 29, 0, 0, .int 5, false),
  (57, .goto 5, 0, 31, 0, .null, false),
  (60, .bipush (-9), 31, 0, 0, .int (-9), false),
  (62, .ireturn, 0, 0, 0, .null, true)]
def q_X6_kindOf : List (List mm_N) := [q_X6_kindOf_0]
def q_X6_figure_0 : List mm_N := [(0, .aload_n 0, 1, 0, 0, .null, false),
  (1, .iload_n 1, 2, 1, 0, .null, false),
  (2, .iload_n 2, 3, 2, 0, .null, false),
  (3, .invokevirtual 93, 4, 133, 3, .null, false),
  (6, .bipush 48, 5, 0, 0, .int 48, false),
  (8, .isub, 6, 0, 0, .null, false),
  (9, .istore 4, 7, 4, 0, .null, false),
  (11, .iload 4, 8, 4, 0, .null, false),
  (13, .iconst 0, 9, 0, 0, .int 0, false),
  (14, .iload_n 3, 10, 3, 0, .null, false),
  (15, .invokestatic 72, 11, 117, 3, .null, false),
  (18, .ifCond .eq 8, 12, 14, 0, .null, false),
  (21, .iload 4, 13, 4, 0, .null, false),
  (23, .goto 5, 0, 15, 0, .null, false),
  (26, .bipush (-9), 15, 0, 0, .int (-9), false),
  (28, .ireturn, 0, 0, 0, .null, true)]
def q_X6_figure : List (List mm_N) := [q_X6_figure_0]
def q_X6_faults_0 : List mm_N := [(0, .aload_n 0, 1, 0, 0, .null, false),
  (1, .aload_n 0, 2, 0, 0, .null, false),
  (2, .getfield 97, 3, 6, 22, .null, false),
  (5, .bipush (-9), 4, 0, 0, .int (-9), false),
  (7, .if_icmp .ne 7, 5, 7, 0, .null, false),
  (10, .iload_n 1, 6, 1, 0, .null, false),
  (11, .goto 7, 0, 9, 0, .null, false),
  (14, .aload_n 0, 8, 0, 0, .null, false),
  (15, .getfield 97, 9, 6, 22, .null, false),
  (18, .putfield 97, 10, 6, 22, .null, true),
  (21, .return_, 0, 0, 0, .null, false)]
def q_X6_faults : List (List mm_N) := [q_X6_faults_0]
def q_X6_readsCitation_0 : List mm_N := [(0, .aload_n 0, 1, 0, 0, .null, false),
  (1, .iload_n 1, 2, 1, 0, .null, false),
  (2, .iload_n 2, 3, 2, 0, .null, false),
  (3, .invokevirtual 93, 4, 133, 3, .null, false),
  (6, .istore 4, 5, 4, 0, .null, false),
  (8, .aload_n 0, 6, 0, 0, .null, false),
  (9, .getfield 59, 7, 6, 23, .null, false),
  (12, .iconst 3, 8, 0, 0, .int 3, false),
  (13, .bipush (-9), 9, 0, 0, .int (-9), false),
  (15, .iastore, 10, 0, 0, .null, false),
  (16, .aload_n 0, 11, 0, 0, .null, false),
  (17, .getfield 59, 12, 6, 23, .null, false),
  (20, .iconst 4, 13, 0, 0, .int 4, false),
  (21, .iconst 0, 14, 0, 0, .int 0, false),
  (22, .iastore, 15, 0, 0, .null, false),
  (23, .aload_n 0, 16, 0, 0, .null, false),
  (24, .iload_n 2, 17, 2, 0, .null, false),
  (25, .putfield 100, 18, 6, 21, .null, false),
  (28, .iload 4, 19, 4, 0, .null, false),
  (30, .bipush 43, 20, 0, 0, .int 43, false),
  (32, .if_icmp .eq 10, 21, 24, 0, .null, false),
  (35, .iload 4, 22, 4, 0, .null, false),
  (37, .bipush 45, 23, 0, 0, .int 45, false),
  (39, .if_icmp .ne 80, 24, 72, 0, .null, false),
  (42, .aload_n 0, 25, 0, 0, .null, true),
  (43, .iload_n 1, 26, 1, 0, .null, false),
  (44, .iload_n 2, 27, 2, 0, .null, false),
  (45, .iconst 1, 28, 0, 0, .int 1, false),
  (46, .iadd, 29, 0, 0, .null, false),
  (47, .iload_n 3, 30, 3, 0, .null, false),
  (48, .iconst 1, 31, 0, 0, .int 1, false),
  (49, .isub, 32, 0, 0, .null, false)]
def q_X6_readsCitation_1 : List mm_N := [(50, .invokevirtual 103, 33, 135, 4, .null, false),
  (53, .istore 5, 34, 5, 0, .null, false),
  (55, .iload 5, 35, 5, 0, .null, false),
  (57, .bipush (-9), 36, 0, 0, .int (-9), false),
  (59, .if_icmp .eq 19, 37, 46, 0, .null, false),
  (62, .aload_n 0, 38, 0, 0, .null, false),
  (63, .getfield 62, 39, 6, 24, .null, false),
  (66, .iload 5, 40, 5, 0, .null, false),
  (68, .iaload, 41, 0, 0, .null, false),
  (69, .aload_n 0, 42, 0, 0, .null, false),
  (70, .getfield 59, 43, 6, 23, .null, false),
  (73, .iconst 1, 44, 0, 0, .int 1, false),
  (74, .iaload, 45, 0, 0, .null, false),
  (75, .if_icmp .lt 11, 46, 52, 0, .null, false),
  (78, .aload_n 0, 47, 0, 0, .null, true),
  (79, .iload_n 2, 48, 2, 0, .null, false),
  (80, .iconst 1, 49, 0, 0, .int 1, false),
  (81, .iadd, 50, 0, 0, .null, false),
  (82, .invokevirtual 107, 51, 136, 2, .null, false),
  (85, .return_, 0, 0, 0, .null, false),
  (86, .aload_n 0, 53, 0, 0, .null, false),
  (87, .getfield 59, 54, 6, 23, .null, false),
  (90, .iconst 3, 55, 0, 0, .int 3, false),
  (91, .iload 5, 56, 5, 0, .null, false),
  (93, .iastore, 57, 0, 0, .null, false),
  (94, .aload_n 0, 58, 0, 0, .null, false),
  (95, .getfield 59, 59, 6, 23, .null, false),
  (98, .iconst 4, 60, 0, 0, .int 4, false),
  (99, .iload 4, 61, 4, 0, .null, false),
  (101, .bipush 43, 62, 0, 0, .int 43, false),
  (103, .if_icmp .ne 7, 63, 65, 0, .null, false),
  (106, .iconst 1, 64, 0, 0, .int 1, false)]
def q_X6_readsCitation_2 : List mm_N := [(107, .goto 4, 0, 66, 0, .null, false),
  (110, .iconst (-1), 66, 0, 0, .int (-1), false),
  (111, .iastore, 67, 0, 0, .null, true),
  (112, .aload_n 0, 68, 0, 0, .null, false),
  (113, .iload_n 2, 69, 2, 0, .null, false),
  (114, .iconst 2, 70, 0, 0, .int 2, false),
  (115, .iadd, 71, 0, 0, .null, false),
  (116, .putfield 100, 72, 6, 21, .null, false),
  (119, .aload_n 0, 73, 0, 0, .null, true),
  (120, .iload_n 1, 74, 1, 0, .null, false),
  (121, .aload_n 0, 75, 0, 0, .null, false),
  (122, .getfield 100, 76, 6, 21, .null, false),
  (125, .invokevirtual 93, 77, 133, 3, .null, false),
  (128, .bipush 46, 78, 0, 0, .int 46, false),
  (130, .if_icmp .eq 11, 79, 83, 0, .null, false),
  (133, .aload_n 0, 80, 0, 0, .null, false),
  (134, .aload_n 0, 81, 0, 0, .null, false),
  (135, .getfield 100, 82, 6, 21, .null, false),
  (138, .invokevirtual 107, 83, 136, 2, .null, false),
  (141, .aload_n 0, 84, 0, 0, .null, true),
  (142, .dup, 85, 0, 0, .null, false),
  (143, .getfield 100, 86, 6, 21, .null, false),
  (146, .iconst 1, 87, 0, 0, .int 1, false),
  (147, .iadd, 88, 0, 0, .null, false),
  (148, .putfield 100, 89, 6, 21, .null, false),
  (151, .return_, 0, 0, 0, .null, false)]
def q_X6_readsCitation : List (List mm_N) := [q_X6_readsCitation_0, q_X6_readsCitation_1, q_X6_readsCitation_2]
def q_X6_readsItem_0 : List mm_N := [(0, .aload_n 0, 1, 0, 0, .null, false),
  (1, .getfield 59, 2, 6, 23, .null, false),
  (4, .iconst 0, 3, 0, 0, .int 0, false),
  (5, .aload_n 0, 4, 0, 0, .null, false),
  (6, .iload_n 1, 5, 1, 0, .null, false),
  (7, .iload_n 2, 6, 2, 0, .null, false),
  (8, .invokevirtual 93, 7, 133, 3, .null, false),
  (11, .invokestatic 111, 8, 134, 1, .null, false),
  (14, .iastore, 9, 0, 0, .null, false),
  (15, .aload_n 0, 10, 0, 0, .null, false),
  (16, .getfield 59, 11, 6, 23, .null, false),
  (19, .iconst 1, 12, 0, 0, .int 1, false),
  (20, .aload_n 0, 13, 0, 0, .null, false),
  (21, .iload_n 1, 14, 1, 0, .null, false),
  (22, .iload_n 2, 15, 2, 0, .null, false),
  (23, .iconst 1, 16, 0, 0, .int 1, false),
  (24, .iadd, 17, 0, 0, .null, false),
  (25, .bipush 9, 18, 0, 0, .int 9, false),
  (27, .invokevirtual 103, 19, 135, 4, .null, false),
  (30, .iastore, 20, 0, 0, .null, false),
  (31, .aload_n 0, 21, 0, 0, .null, false),
  (32, .getfield 59, 22, 6, 23, .null, false),
  (35, .iconst 2, 23, 0, 0, .int 2, false),
  (36, .aload_n 0, 24, 0, 0, .null, false),
  (37, .iload_n 1, 25, 1, 0, .null, false),
  (38, .iload_n 2, 26, 2, 0, .null, false),
  (39, .iconst 2, 27, 0, 0, .int 2, false),
  (40, .iadd, 28, 0, 0, .null, false),
  (41, .iconst 1, 29, 0, 0, .int 1, false),
  (42, .invokevirtual 103, 30, 135, 4, .null, false),
  (45, .iastore, 31, 0, 0, .null, false),
  (46, .aload_n 0, 32, 0, 0, .null, false)]
def q_X6_readsItem_1 : List mm_N := [(47, .getfield 59, 33, 6, 23, .null, false),
  (50, .iconst 0, 34, 0, 0, .int 0, false),
  (51, .iaload, 35, 0, 0, .null, false),
  (52, .bipush (-9), 36, 0, 0, .int (-9), false),
  (54, .if_icmp .eq 9, 37, 40, 0, .null, false),
  (57, .iload_n 3, 38, 3, 0, .null, false),
  (58, .bipush 9, 39, 0, 0, .int 9, false),
  (60, .if_icmp .ne 11, 40, 44, 0, .null, false),
  (63, .aload_n 0, 41, 0, 0, .null, true),
  (64, .iload_n 2, 42, 2, 0, .null, false),
  (65, .invokevirtual 107, 43, 136, 2, .null, false),
  (68, .goto 54, 0, 75, 0, .null, false),
  (71, .aload_n 0, 45, 0, 0, .null, false),
  (72, .getfield 59, 46, 6, 23, .null, false),
  (75, .iconst 1, 47, 0, 0, .int 1, false),
  (76, .iaload, 48, 0, 0, .null, false),
  (77, .bipush (-9), 49, 0, 0, .int (-9), false),
  (79, .if_icmp .ne 13, 50, 56, 0, .null, false),
  (82, .aload_n 0, 51, 0, 0, .null, false),
  (83, .iload_n 2, 52, 2, 0, .null, false),
  (84, .iconst 1, 53, 0, 0, .int 1, false),
  (85, .iadd, 54, 0, 0, .null, false),
  (86, .invokevirtual 107, 55, 136, 2, .null, false),
  (89, .goto 33, 0, 75, 0, .null, false),
  (92, .aload_n 0, 57, 0, 0, .null, false),
  (93, .getfield 59, 58, 6, 23, .null, false),
  (96, .iconst 2, 59, 0, 0, .int 2, false),
  (97, .iaload, 60, 0, 0, .null, false),
  (98, .bipush (-9), 61, 0, 0, .int (-9), false),
  (100, .if_icmp .ne 13, 62, 68, 0, .null, false),
  (103, .aload_n 0, 63, 0, 0, .null, false),
  (104, .iload_n 2, 64, 2, 0, .null, false)]
def q_X6_readsItem_2 : List mm_N := [(105, .iconst 2, 65, 0, 0, .int 2, false),
  (106, .iadd, 66, 0, 0, .null, false),
  (107, .invokevirtual 107, 67, 136, 2, .null, false),
  (110, .goto 12, 0, 75, 0, .null, false),
  (113, .aload_n 0, 69, 0, 0, .null, false),
  (114, .iload_n 1, 70, 1, 0, .null, false),
  (115, .iload_n 2, 71, 2, 0, .null, false),
  (116, .iconst 3, 72, 0, 0, .int 3, false),
  (117, .iadd, 73, 0, 0, .null, false),
  (118, .iload_n 3, 74, 3, 0, .null, false),
  (119, .invokevirtual 114, 75, 137, 4, .null, false),
  (122, .aload_n 0, 76, 0, 0, .null, true),
  (123, .getfield 59, 77, 6, 23, .null, false),
  (126, .iconst 5, 78, 0, 0, .int 5, false),
  (127, .iconst 0, 79, 0, 0, .int 0, false),
  (128, .iastore, 80, 0, 0, .null, false),
  (129, .bipush (-9), 81, 0, 0, .int (-9), false),
  (131, .istore 4, 82, 4, 0, .null, false),
  (133, .aload_n 0, 83, 0, 0, .null, true),
  (134, .getfield 97, 84, 6, 22, .null, false),
  (137, .bipush (-9), 85, 0, 0, .int (-9), false),
  (139, .if_icmp .ne 89, 86, 132, 0, .null, false),
  (142, .aload_n 0, 87, 0, 0, .null, false),
  (143, .iload_n 1, 88, 1, 0, .null, false),
  (144, .aload_n 0, 89, 0, 0, .null, false),
  (145, .getfield 100, 90, 6, 21, .null, false),
  (148, .invokevirtual 93, 91, 133, 3, .null, false),
  (151, .bipush 48, 92, 0, 0, .int 48, false),
  (153, .bipush 57, 93, 0, 0, .int 57, false),
  (155, .invokestatic 72, 94, 117, 3, .null, false),
  (158, .ifCond .eq 70, 95, 132, 0, .null, false),
  (161, .aload_n 0, 96, 0, 0, .null, false)]
def q_X6_readsItem_3 : List mm_N := [(162, .iload_n 1, 97, 1, 0, .null, false),
  (163, .aload_n 0, 98, 0, 0, .null, false),
  (164, .getfield 100, 99, 6, 21, .null, false),
  (167, .iconst 4, 100, 0, 0, .int 4, false),
  (168, .invokevirtual 103, 101, 135, 4, .null, false),
  (171, .istore 5, 102, 5, 0, .null, false),
  (173, .iload 5, 103, 5, 0, .null, false),
  (175, .bipush (-9), 104, 0, 0, .int (-9), false),
  (177, .if_icmp .eq 10, 105, 108, 0, .null, false),
  (180, .iload 5, 106, 5, 0, .null, false),
  (182, .iload 4, 107, 4, 0, .null, false),
  (184, .if_icmp .gt 14, 108, 113, 0, .null, false),
  (187, .aload_n 0, 109, 0, 0, .null, true),
  (188, .aload_n 0, 110, 0, 0, .null, false),
  (189, .getfield 100, 111, 6, 21, .null, false),
  (192, .invokevirtual 107, 112, 136, 2, .null, false),
  (195, .goto 30, 0, 131, 0, .null, false),
  (198, .aload_n 0, 114, 0, 0, .null, false),
  (199, .getfield 59, 115, 6, 23, .null, false),
  (202, .iconst 5, 116, 0, 0, .int 5, false),
  (203, .dup2, 117, 0, 0, .null, false),
  (204, .iaload, 118, 0, 0, .null, false),
  (205, .iconst 1, 119, 0, 0, .int 1, false),
  (206, .iload 5, 120, 5, 0, .null, false),
  (208, .ishl, 121, 0, 0, .null, false),
  (209, .ior, 122, 0, 0, .null, false),
  (210, .iastore, 123, 0, 0, .null, false),
  (211, .iload 5, 124, 5, 0, .null, false),
  (213, .istore 4, 125, 4, 0, .null, false),
  (215, .aload_n 0, 126, 0, 0, .null, false),
  (216, .dup, 127, 0, 0, .null, false),
  (217, .getfield 100, 128, 6, 21, .null, false)]
def q_X6_readsItem_4 : List mm_N := [(220, .iconst 1, 129, 0, 0, .int 1, false),
  (221, .iadd, 130, 0, 0, .null, false),
  (222, .putfield 100, 131, 6, 21, .null, false),
  (225, .goto (-92), 0, 82, 0, .null, true),
  (228, .return_, 0, 0, 0, .null, true)]
def q_X6_readsItem : List (List mm_N) := [q_X6_readsItem_0, q_X6_readsItem_1, q_X6_readsItem_2, q_X6_readsItem_3, q_X6_readsItem_4]
def q_X6_reads_0 : List mm_N := [(0, .aload_n 0, 1, 0, 0, .null, false),
  (1, .bipush (-9), 2, 0, 0, .int (-9), false),
  (3, .putfield 97, 3, 6, 22, .null, false),
  (6, .iconst 0, 4, 0, 0, .int 0, false),
  (7, .istore_n 3, 5, 3, 0, .null, false),
  (8, .iconst 0, 6, 0, 0, .int 0, false),
  (9, .istore 4, 7, 4, 0, .null, false),
  (11, .aload_n 0, 8, 0, 0, .null, true),
  (12, .getfield 97, 9, 6, 22, .null, false),
  (15, .bipush (-9), 10, 0, 0, .int (-9), false),
  (17, .if_icmp .ne 121, 11, 78, 0, .null, false),
  (20, .iload_n 3, 12, 3, 0, .null, false),
  (21, .aload_n 0, 13, 0, 0, .null, false),
  (22, .getfield 16, 14, 6, 2, .null, false),
  (25, .iload_n 1, 15, 1, 0, .null, false),
  (26, .iaload, 16, 0, 0, .null, false),
  (27, .if_icmp .ge 111, 17, 78, 0, .null, false),
  (30, .aload_n 0, 18, 0, 0, .null, false),
  (31, .iload_n 1, 19, 1, 0, .null, false),
  (32, .iload_n 3, 20, 3, 0, .null, false),
  (33, .invokevirtual 93, 21, 133, 3, .null, false),
  (36, .bipush 32, 22, 0, 0, .int 32, false),
  (38, .if_icmp .ne 9, 23, 25, 0, .null, false),
  (41, .iinc 3 1, 24, 3, 0, .int 1, false),
  (44, .goto (-33), 0, 7, 0, .null, false),
  (47, .aload_n 0, 26, 0, 0, .null, false),
  (48, .iload_n 1, 27, 1, 0, .null, false),
  (49, .iload_n 3, 28, 3, 0, .null, false),
  (50, .iload 4, 29, 4, 0, .null, false),
  (52, .invokevirtual 118, 30, 138, 4, .null, false),
  (55, .aload_n 0, 31, 0, 0, .null, false),
  (56, .getfield 97, 32, 6, 22, .null, false)]
def q_X6_reads_1 : List mm_N := [(59, .bipush (-9), 33, 0, 0, .int (-9), false),
  (61, .if_icmp .ne (-50), 34, 7, 0, .null, false),
  (64, .aload_n 0, 35, 0, 0, .null, false),
  (65, .getfield 62, 36, 6, 24, .null, false),
  (68, .iload 4, 37, 4, 0, .null, false),
  (70, .aload_n 0, 38, 0, 0, .null, false),
  (71, .getfield 59, 39, 6, 23, .null, false),
  (74, .iconst 1, 40, 0, 0, .int 1, false),
  (75, .iaload, 41, 0, 0, .null, false),
  (76, .iastore, 42, 0, 0, .null, false),
  (77, .iload_n 2, 43, 2, 0, .null, false),
  (78, .ifCond .eq 49, 44, 73, 0, .null, false),
  (81, .aload_n 0, 45, 0, 0, .null, false),
  (82, .iload 4, 46, 4, 0, .null, false),
  (84, .putfield 121, 47, 6, 10, .null, false),
  (87, .aload_n 0, 48, 0, 0, .null, false),
  (88, .aload_n 0, 49, 0, 0, .null, false),
  (89, .getfield 59, 50, 6, 23, .null, false),
  (92, .iconst 0, 51, 0, 0, .int 0, false),
  (93, .iaload, 52, 0, 0, .null, false),
  (94, .aload_n 0, 53, 0, 0, .null, false),
  (95, .getfield 59, 54, 6, 23, .null, false),
  (98, .iconst 1, 55, 0, 0, .int 1, false),
  (99, .iaload, 56, 0, 0, .null, false),
  (100, .aload_n 0, 57, 0, 0, .null, false),
  (101, .getfield 59, 58, 6, 23, .null, false),
  (104, .iconst 2, 59, 0, 0, .int 2, false),
  (105, .iaload, 60, 0, 0, .null, false),
  (106, .aload_n 0, 61, 0, 0, .null, false),
  (107, .getfield 59, 62, 6, 23, .null, false),
  (110, .iconst 3, 63, 0, 0, .int 3, false),
  (111, .iaload, 64, 0, 0, .null, false)]
def q_X6_reads_2 : List mm_N := [(112, .aload_n 0, 65, 0, 0, .null, false),
  (113, .getfield 59, 66, 6, 23, .null, false),
  (116, .iconst 4, 67, 0, 0, .int 4, false),
  (117, .iaload, 68, 0, 0, .null, false),
  (118, .aload_n 0, 69, 0, 0, .null, false),
  (119, .getfield 59, 70, 6, 23, .null, false),
  (122, .iconst 5, 71, 0, 0, .int 5, false),
  (123, .iaload, 72, 0, 0, .null, false),
  (124, .invokevirtual 124, 73, 141, 7, .null, false),
  (127, .iinc 4 1, 74, 4, 0, .int 1, true),
  (130, .aload_n 0, 75, 0, 0, .null, false),
  (131, .getfield 100, 76, 6, 21, .null, false),
  (134, .istore_n 3, 77, 3, 0, .null, false),
  (135, .goto (-124), 0, 7, 0, .null, false),
  (138, .iload 4, 79, 4, 0, .null, true),
  (140, .ireturn, 0, 0, 0, .null, false)]
def q_X6_reads : List (List mm_N) := [q_X6_reads_0, q_X6_reads_1, q_X6_reads_2]
def q_X6_fault_0 : List mm_N := [(0, .iload_n 1, 1, 1, 0, .null, false),
  (1, .invokestatic 90, 2, 123, 1, .null, false),
  (4, .ifCond .ne 5, 3, 5, 0, .null, false),
  (7, .iconst (-1), 4, 0, 0, .int (-1), false),
  (8, .ireturn, 0, 0, 0, .null, false),
  (9, .aload_n 0, 6, 0, 0, .null, false),
  (10, .getfield 16, 7, 6, 2, .null, false),
  (13, .iload_n 1, 8, 1, 0, .null, false),
  (14, .iaload, 9, 0, 0, .null, false),
  (15, .ifCond .ge 9, 10, 14, 0, .null, false),
  (18, .aload_n 0, 11, 0, 0, .null, false),
  (19, .iconst 1, 12, 0, 0, .int 1, false),
  (20, .invokevirtual 80, 13, 120, 2, .null, false),
  (23, .ireturn, 0, 0, 0, .null, false),
  (24, .aload_n 0, 15, 0, 0, .null, false),
  (25, .iload_n 1, 16, 1, 0, .null, false),
  (26, .iconst 0, 17, 0, 0, .int 0, false),
  (27, .invokevirtual 128, 18, 139, 3, .null, false),
  (30, .pop, 19, 0, 0, .null, false),
  (31, .aload_n 0, 20, 0, 0, .null, false),
  (32, .getfield 97, 21, 6, 22, .null, false),
  (35, .ireturn, 0, 0, 0, .null, false)]
def q_X6_fault : List (List mm_N) := [q_X6_fault_0]
def q_X6_adds_0 : List mm_N := [(0, .aload_n 0, 1, 0, 0, .null, false),
  (1, .getfield 32, 2, 6, 11, .null, false),
  (4, .aload_n 0, 3, 0, 0, .null, false),
  (5, .getfield 121, 4, 6, 10, .null, false),
  (8, .iload_n 1, 5, 1, 0, .null, false),
  (9, .iastore, 6, 0, 0, .null, false),
  (10, .aload_n 0, 7, 0, 0, .null, false),
  (11, .getfield 35, 8, 6, 12, .null, false),
  (14, .aload_n 0, 9, 0, 0, .null, false),
  (15, .getfield 121, 10, 6, 10, .null, false),
  (18, .iload_n 2, 11, 2, 0, .null, false),
  (19, .iastore, 12, 0, 0, .null, false),
  (20, .aload_n 0, 13, 0, 0, .null, false),
  (21, .getfield 38, 14, 6, 13, .null, false),
  (24, .aload_n 0, 15, 0, 0, .null, false),
  (25, .getfield 121, 16, 6, 10, .null, false),
  (28, .iload_n 3, 17, 3, 0, .null, false),
  (29, .iastore, 18, 0, 0, .null, false),
  (30, .aload_n 0, 19, 0, 0, .null, false),
  (31, .getfield 41, 20, 6, 14, .null, false),
  (34, .aload_n 0, 21, 0, 0, .null, false),
  (35, .getfield 121, 22, 6, 10, .null, false),
  (38, .iload 4, 23, 4, 0, .null, false),
  (40, .iastore, 24, 0, 0, .null, false),
  (41, .aload_n 0, 25, 0, 0, .null, false),
  (42, .getfield 44, 26, 6, 15, .null, false),
  (45, .aload_n 0, 27, 0, 0, .null, false),
  (46, .getfield 121, 28, 6, 10, .null, false),
  (49, .iload 5, 29, 5, 0, .null, false),
  (51, .iastore, 30, 0, 0, .null, false),
  (52, .aload_n 0, 31, 0, 0, .null, false),
  (53, .getfield 47, 32, 6, 16, .null, false)]
def q_X6_adds_1 : List mm_N := [(56, .aload_n 0, 33, 0, 0, .null, false),
  (57, .getfield 121, 34, 6, 10, .null, false),
  (60, .iload 6, 35, 6, 0, .null, false),
  (62, .iastore, 36, 0, 0, .null, false),
  (63, .aload_n 0, 37, 0, 0, .null, false),
  (64, .dup, 38, 0, 0, .null, false),
  (65, .getfield 121, 39, 6, 10, .null, false),
  (68, .iconst 1, 40, 0, 0, .int 1, false),
  (69, .iadd, 41, 0, 0, .null, false),
  (70, .putfield 121, 42, 6, 10, .null, false),
  (73, .return_, 0, 0, 0, .null, false)]
def q_X6_adds : List (List mm_N) := [q_X6_adds_0, q_X6_adds_1]
def q_X6_court_0 : List mm_N := [(0, .iload_n 1, 1, 1, 0, .null, false),
  (1, .invokestatic 90, 2, 123, 1, .null, false),
  (4, .ifCond .ne 5, 3, 5, 0, .null, false),
  (7, .iconst (-1), 4, 0, 0, .int (-1), false),
  (8, .ireturn, 0, 0, 0, .null, false),
  (9, .aload_n 0, 6, 0, 0, .null, false),
  (10, .getfield 16, 7, 6, 2, .null, false),
  (13, .iload_n 1, 8, 1, 0, .null, false),
  (14, .iaload, 9, 0, 0, .null, false),
  (15, .ifCond .ge 9, 10, 14, 0, .null, false),
  (18, .aload_n 0, 11, 0, 0, .null, false),
  (19, .iconst 1, 12, 0, 0, .int 1, false),
  (20, .invokevirtual 80, 13, 120, 2, .null, false),
  (23, .ireturn, 0, 0, 0, .null, false),
  (24, .aload_n 0, 15, 0, 0, .null, false),
  (25, .iload_n 1, 16, 1, 0, .null, false),
  (26, .iconst 0, 17, 0, 0, .int 0, false),
  (27, .invokevirtual 128, 18, 139, 3, .null, false),
  (30, .pop, 19, 0, 0, .null, false),
  (31, .aload_n 0, 20, 0, 0, .null, false),
  (32, .getfield 97, 21, 6, 22, .null, false),
  (35, .bipush (-9), 22, 0, 0, .int (-9), false),
  (37, .if_icmp .eq 6, 23, 25, 0, .null, false),
  (40, .bipush (-4), 24, 0, 0, .int (-4), false),
  (42, .ireturn, 0, 0, 0, .null, false),
  (43, .aload_n 0, 26, 0, 0, .null, false),
  (44, .iconst 0, 27, 0, 0, .int 0, false),
  (45, .putfield 121, 28, 6, 10, .null, false),
  (48, .aload_n 0, 29, 0, 0, .null, false),
  (49, .iload_n 1, 30, 1, 0, .null, false),
  (50, .iconst 1, 31, 0, 0, .int 1, false),
  (51, .invokevirtual 128, 32, 139, 3, .null, false)]
def q_X6_court_1 : List mm_N := [(54, .pop, 33, 0, 0, .null, false),
  (55, .iconst 0, 34, 0, 0, .int 0, false),
  (56, .istore_n 2, 35, 2, 0, .null, false),
  (57, .iload_n 2, 36, 2, 0, .null, true),
  (58, .iconst 3, 37, 0, 0, .int 3, false),
  (59, .if_icmp .ge 17, 38, 45, 0, .null, false),
  (62, .aload_n 0, 39, 0, 0, .null, false),
  (63, .getfield 50, 40, 6, 17, .null, false),
  (66, .iload_n 2, 41, 2, 0, .null, false),
  (67, .bipush (-9), 42, 0, 0, .int (-9), false),
  (69, .iastore, 43, 0, 0, .null, false),
  (70, .iinc 2 1, 44, 2, 0, .int 1, false),
  (73, .goto (-16), 0, 35, 0, .null, false),
  (76, .aload_n 0, 46, 0, 0, .null, false),
  (77, .getfield 121, 47, 6, 10, .null, false),
  (80, .ireturn, 0, 0, 0, .null, false)]
def q_X6_court : List (List mm_N) := [q_X6_court_0, q_X6_court_1]
def q_X6_isRuling_0 : List mm_N := [(0, .iload_n 1, 1, 1, 0, .null, false),
  (1, .iconst 0, 2, 0, 0, .int 0, false),
  (2, .aload_n 0, 3, 0, 0, .null, false),
  (3, .getfield 121, 4, 6, 10, .null, false),
  (6, .iconst 1, 5, 0, 0, .int 1, false),
  (7, .isub, 6, 0, 0, .null, false),
  (8, .invokestatic 72, 7, 117, 3, .null, false),
  (11, .ireturn, 0, 0, 0, .null, false)]
def q_X6_isRuling : List (List mm_N) := [q_X6_isRuling_0]
def q_X6_isSet_0 : List mm_N := [(0, .iload_n 1, 1, 1, 0, .null, false),
  (1, .iconst 0, 2, 0, 0, .int 0, false),
  (2, .iconst 1, 3, 0, 0, .int 1, false),
  (3, .aload_n 0, 4, 0, 0, .null, false),
  (4, .getfield 121, 5, 6, 10, .null, false),
  (7, .ishl, 6, 0, 0, .null, false),
  (8, .iconst 1, 7, 0, 0, .int 1, false),
  (9, .isub, 8, 0, 0, .null, false),
  (10, .invokestatic 72, 9, 117, 3, .null, false),
  (13, .ireturn, 0, 0, 0, .null, false)]
def q_X6_isSet : List (List mm_N) := [q_X6_isSet_0]
def q_X6_citing_0 : List mm_N := [(0, .iconst 0, 1, 0, 0, .int 0, false),
  (1, .istore_n 3, 2, 3, 0, .null, false),
  (2, .iconst 0, 3, 0, 0, .int 0, false),
  (3, .istore 4, 4, 4, 0, .null, false),
  (5, .iload 4, 5, 4, 0, .null, true),
  (7, .aload_n 0, 6, 0, 0, .null, false),
  (8, .getfield 121, 7, 6, 10, .null, false),
  (11, .if_icmp .ge 43, 8, 30, 0, .null, false),
  (14, .iload_n 3, 9, 3, 0, .null, false),
  (15, .aload_n 0, 10, 0, 0, .null, false),
  (16, .getfield 41, 11, 6, 14, .null, false),
  (19, .iload 4, 12, 4, 0, .null, false),
  (21, .iaload, 13, 0, 0, .null, false),
  (22, .iload_n 1, 14, 1, 0, .null, false),
  (23, .if_icmp .ne 22, 15, 25, 0, .null, false),
  (26, .iload_n 2, 16, 2, 0, .null, false),
  (27, .ifCond .eq 14, 17, 23, 0, .null, false),
  (30, .aload_n 0, 18, 0, 0, .null, false),
  (31, .getfield 44, 19, 6, 15, .null, false),
  (34, .iload 4, 20, 4, 0, .null, false),
  (36, .iaload, 21, 0, 0, .null, false),
  (37, .iload_n 2, 22, 2, 0, .null, false),
  (38, .if_icmp .ne 7, 23, 25, 0, .null, false),
  (41, .iconst 1, 24, 0, 0, .int 1, true),
  (42, .goto 4, 0, 26, 0, .null, false),
  (45, .iconst 0, 26, 0, 0, .int 0, true),
  (46, .iadd, 27, 0, 0, .null, true),
  (47, .istore_n 3, 28, 3, 0, .null, false),
  (48, .iinc 4 1, 29, 4, 0, .int 1, false),
  (51, .goto (-46), 0, 4, 0, .null, false),
  (54, .iload_n 3, 31, 3, 0, .null, false),
  (55, .ireturn, 0, 0, 0, .null, false)]
def q_X6_citing : List (List mm_N) := [q_X6_citing_0]
def q_X6_told_0 : List mm_N := [(0, .iload_n 2, 1, 2, 0, .null, false),
  (1, .ifCond .ne 12, 2, 7, 0, .null, false),
  (4, .aload_n 0, 3, 0, 0, .null, false),
  (5, .getfield 32, 4, 6, 11, .null, false),
  (8, .iload_n 1, 5, 1, 0, .null, false),
  (9, .iaload, 6, 0, 0, .null, false),
  (10, .goto 79, 0, 51, 0, .null, false),
  (13, .iload_n 2, 8, 2, 0, .null, false),
  (14, .iconst 1, 9, 0, 0, .int 1, false),
  (15, .if_icmp .ne 12, 10, 15, 0, .null, false),
  (18, .aload_n 0, 11, 0, 0, .null, false),
  (19, .getfield 35, 12, 6, 12, .null, false),
  (22, .iload_n 1, 13, 1, 0, .null, false),
  (23, .iaload, 14, 0, 0, .null, false),
  (24, .goto 65, 0, 51, 0, .null, false),
  (27, .iload_n 2, 16, 2, 0, .null, false),
  (28, .iconst 2, 17, 0, 0, .int 2, false),
  (29, .if_icmp .ne 12, 18, 23, 0, .null, false),
  (32, .aload_n 0, 19, 0, 0, .null, false),
  (33, .getfield 38, 20, 6, 13, .null, false),
  (36, .iload_n 1, 21, 1, 0, .null, false),
  (37, .iaload, 22, 0, 0, .null, false),
  (38, .goto 51, 0, 51, 0, .null, false),
  (41, .iload_n 2, 24, 2, 0, .null, false),
  (42, .iconst 3, 25, 0, 0, .int 3, false),
  (43, .if_icmp .ne 12, 26, 31, 0, .null, false),
  (46, .aload_n 0, 27, 0, 0, .null, false),
  (47, .getfield 41, 28, 6, 14, .null, false),
  (50, .iload_n 1, 29, 1, 0, .null, false),
  (51, .iaload, 30, 0, 0, .null, false),
  (52, .goto 37, 0, 51, 0, .null, false),
  (55, .iload_n 2, 32, 2, 0, .null, false)]
def q_X6_told_1 : List mm_N := [(56, .iconst 4, 33, 0, 0, .int 4, false),
  (57, .if_icmp .ne 12, 34, 39, 0, .null, false),
  (60, .aload_n 0, 35, 0, 0, .null, false),
  (61, .getfield 44, 36, 6, 15, .null, false),
  (64, .iload_n 1, 37, 1, 0, .null, false),
  (65, .iaload, 38, 0, 0, .null, false),
  (66, .goto 23, 0, 51, 0, .null, false),
  (69, .iload_n 2, 40, 2, 0, .null, false),
  (70, .iconst 5, 41, 0, 0, .int 5, false),
  (71, .if_icmp .ne 12, 42, 47, 0, .null, false),
  (74, .aload_n 0, 43, 0, 0, .null, false),
  (75, .getfield 47, 44, 6, 16, .null, false),
  (78, .iload_n 1, 45, 1, 0, .null, false),
  (79, .iaload, 46, 0, 0, .null, false),
  (80, .goto 9, 0, 51, 0, .null, false),
  (83, .aload_n 0, 48, 0, 0, .null, false),
  (84, .iload_n 1, 49, 1, 0, .null, false),
  (85, .iconst 0, 50, 0, 0, .int 0, false),
  (86, .invokevirtual 132, 51, 145, 3, .null, false),
  (89, .ireturn, 0, 0, 0, .null, true)]
def q_X6_told : List (List mm_N) := [q_X6_told_0, q_X6_told_1]
def q_X6_ruling_0 : List mm_N := [(0, .aload_n 0, 1, 0, 0, .null, false),
  (1, .iload_n 1, 2, 1, 0, .null, false),
  (2, .invokevirtual 135, 3, 143, 2, .null, false),
  (5, .ifCond .eq 26, 4, 16, 0, .null, false),
  (8, .iload_n 2, 5, 2, 0, .null, false),
  (9, .iconst 0, 6, 0, 0, .int 0, false),
  (10, .bipush 6, 7, 0, 0, .int 6, false),
  (12, .invokestatic 72, 8, 117, 3, .null, false),
  (15, .ifCond .eq 16, 9, 16, 0, .null, false),
  (18, .aload_n 0, 10, 0, 0, .null, false),
  (19, .aload_n 0, 11, 0, 0, .null, false),
  (20, .iload_n 1, 12, 1, 0, .null, false),
  (21, .iload_n 2, 13, 2, 0, .null, false),
  (22, .invokevirtual 138, 14, 146, 3, .null, false),
  (25, .invokevirtual 84, 15, 121, 2, .null, false),
  (28, .goto 4, 0, 17, 0, .null, false),
  (31, .iconst (-1), 17, 0, 0, .int (-1), true),
  (32, .ireturn, 0, 0, 0, .null, true)]
def q_X6_ruling : List (List mm_N) := [q_X6_ruling_0]
def q_X6_isOf_0 : List mm_N := [(0, .iload_n 0, 1, 0, 0, .null, false),
  (1, .iload_n 1, 2, 1, 0, .null, false),
  (2, .if_icmp .eq 23, 3, 15, 0, .null, false),
  (5, .iload_n 1, 4, 1, 0, .null, false),
  (6, .iconst 1, 5, 0, 0, .int 1, false),
  (7, .if_icmp .ne 8, 6, 9, 0, .null, false),
  (10, .iload_n 0, 7, 0, 0, .null, false),
  (11, .iconst 4, 8, 0, 0, .int 4, false),
  (12, .if_icmp .eq 13, 9, 15, 0, .null, false),
  (15, .iload_n 1, 10, 1, 0, .null, true),
  (16, .iconst 2, 11, 0, 0, .int 2, false),
  (17, .if_icmp .ne 12, 12, 17, 0, .null, false),
  (20, .iload_n 0, 13, 0, 0, .null, false),
  (21, .iconst 5, 14, 0, 0, .int 5, false),
  (22, .if_icmp .ne 7, 15, 17, 0, .null, false),
  (25, .iconst 1, 16, 0, 0, .int 1, true),
  (26, .goto 4, 0, 18, 0, .null, false),
  (29, .iconst 0, 18, 0, 0, .int 0, true),
  (30, .ireturn, 0, 0, 0, .null, true)]
def q_X6_isOf : List (List mm_N) := [q_X6_isOf_0]
def q_X6_depends_0 : List mm_N := [(0, .iconst 0, 1, 0, 0, .int 0, false),
  (1, .istore_n 2, 2, 2, 0, .null, false),
  (2, .aload_n 0, 3, 0, 0, .null, false),
  (3, .getfield 41, 4, 6, 14, .null, false),
  (6, .iload_n 1, 5, 1, 0, .null, false),
  (7, .iaload, 6, 0, 0, .null, false),
  (8, .istore_n 3, 7, 3, 0, .null, false),
  (9, .iload_n 3, 8, 3, 0, .null, true),
  (10, .bipush (-9), 9, 0, 0, .int (-9), false),
  (12, .if_icmp .eq 16, 10, 17, 0, .null, false),
  (15, .iinc 2 1, 11, 2, 0, .int 1, false),
  (18, .aload_n 0, 12, 0, 0, .null, false),
  (19, .getfield 41, 13, 6, 14, .null, false),
  (22, .iload_n 3, 14, 3, 0, .null, false),
  (23, .iaload, 15, 0, 0, .null, false),
  (24, .istore_n 3, 16, 3, 0, .null, false),
  (25, .goto (-16), 0, 7, 0, .null, false),
  (28, .iload_n 2, 18, 2, 0, .null, false),
  (29, .ireturn, 0, 0, 0, .null, false)]
def q_X6_depends : List (List mm_N) := [q_X6_depends_0]
def q_X6_ofItsDay_0 : List mm_N := [(0, .iconst 0, 1, 0, 0, .int 0, false),
  (1, .istore_n 2, 2, 2, 0, .null, false),
  (2, .iconst 0, 3, 0, 0, .int 0, false),
  (3, .istore_n 3, 4, 3, 0, .null, false),
  (4, .iload_n 3, 5, 3, 0, .null, true),
  (5, .aload_n 0, 6, 0, 0, .null, false),
  (6, .getfield 121, 7, 6, 10, .null, false),
  (9, .if_icmp .ge 37, 8, 28, 0, .null, false),
  (12, .iload_n 2, 9, 2, 0, .null, false),
  (13, .iload_n 3, 10, 3, 0, .null, false),
  (14, .iload_n 1, 11, 1, 0, .null, false),
  (15, .if_icmp .eq 22, 12, 23, 0, .null, false),
  (18, .aload_n 0, 13, 0, 0, .null, false),
  (19, .getfield 35, 14, 6, 12, .null, false),
  (22, .iload_n 3, 15, 3, 0, .null, false),
  (23, .iaload, 16, 0, 0, .null, false),
  (24, .aload_n 0, 17, 0, 0, .null, false),
  (25, .getfield 35, 18, 6, 12, .null, false),
  (28, .iload_n 1, 19, 1, 0, .null, false),
  (29, .iaload, 20, 0, 0, .null, false),
  (30, .if_icmp .ne 7, 21, 23, 0, .null, false),
  (33, .iconst 1, 22, 0, 0, .int 1, false),
  (34, .goto 4, 0, 24, 0, .null, false),
  (37, .iconst 0, 24, 0, 0, .int 0, true),
  (38, .iadd, 25, 0, 0, .null, true),
  (39, .istore_n 2, 26, 2, 0, .null, false),
  (40, .iinc 3 1, 27, 3, 0, .int 1, false),
  (43, .goto (-39), 0, 4, 0, .null, false),
  (46, .iload_n 2, 29, 2, 0, .null, false),
  (47, .ireturn, 0, 0, 0, .null, false)]
def q_X6_ofItsDay : List (List mm_N) := [q_X6_ofItsDay_0]
def q_X6_mark_0 : List mm_N := [(0, .aload_n 0, 1, 0, 0, .null, false),
  (1, .iload_n 1, 2, 1, 0, .null, false),
  (2, .invokevirtual 135, 3, 143, 2, .null, false),
  (5, .ifCond .eq 12, 4, 9, 0, .null, false),
  (8, .iload_n 2, 5, 2, 0, .null, false),
  (9, .iconst 1, 6, 0, 0, .int 1, false),
  (10, .iconst 5, 7, 0, 0, .int 5, false),
  (11, .invokestatic 72, 8, 117, 3, .null, false),
  (14, .ifCond .ne 5, 9, 11, 0, .null, false),
  (17, .iconst (-1), 10, 0, 0, .int (-1), true),
  (18, .ireturn, 0, 0, 0, .null, false),
  (19, .aload_n 0, 12, 0, 0, .null, false),
  (20, .getfield 32, 13, 6, 11, .null, false),
  (23, .iload_n 1, 14, 1, 0, .null, false),
  (24, .iaload, 15, 0, 0, .null, false),
  (25, .iload_n 2, 16, 2, 0, .null, false),
  (26, .invokestatic 141, 17, 148, 2, .null, false),
  (29, .ifCond .ne 9, 18, 22, 0, .null, false),
  (32, .aload_n 0, 19, 0, 0, .null, false),
  (33, .iconst 3, 20, 0, 0, .int 3, false),
  (34, .invokevirtual 80, 21, 120, 2, .null, false),
  (37, .ireturn, 0, 0, 0, .null, false),
  (38, .iload_n 2, 23, 2, 0, .null, false),
  (39, .iconst 5, 24, 0, 0, .int 5, false),
  (40, .if_icmp .ne 13, 25, 31, 0, .null, false),
  (43, .aload_n 0, 26, 0, 0, .null, false),
  (44, .invokevirtual 145, 27, 158, 1, .null, false),
  (47, .aload_n 0, 28, 0, 0, .null, false),
  (48, .iload_n 1, 29, 1, 0, .null, false),
  (49, .invokevirtual 148, 30, 165, 2, .null, false),
  (52, .ireturn, 0, 0, 0, .null, false),
  (53, .iload_n 2, 32, 2, 0, .null, false)]
def q_X6_mark_1 : List mm_N := [(54, .iconst 1, 33, 0, 0, .int 1, false),
  (55, .if_icmp .ne 11, 34, 38, 0, .null, false),
  (58, .aload_n 0, 35, 0, 0, .null, false),
  (59, .iload_n 1, 36, 1, 0, .null, false),
  (60, .invokevirtual 151, 37, 149, 2, .null, false),
  (63, .goto 36, 0, 57, 0, .null, false),
  (66, .iload_n 2, 39, 2, 0, .null, false),
  (67, .iconst 2, 40, 0, 0, .int 2, false),
  (68, .if_icmp .ne 12, 41, 46, 0, .null, false),
  (71, .aload_n 0, 42, 0, 0, .null, false),
  (72, .iload_n 1, 43, 1, 0, .null, false),
  (73, .iconst (-1), 44, 0, 0, .int (-1), false),
  (74, .invokevirtual 132, 45, 145, 3, .null, false),
  (77, .goto 22, 0, 57, 0, .null, false),
  (80, .iload_n 2, 47, 2, 0, .null, false),
  (81, .iconst 3, 48, 0, 0, .int 3, false),
  (82, .if_icmp .ne 12, 49, 54, 0, .null, false),
  (85, .aload_n 0, 50, 0, 0, .null, false),
  (86, .iload_n 1, 51, 1, 0, .null, false),
  (87, .iconst 1, 52, 0, 0, .int 1, false),
  (88, .invokevirtual 132, 53, 145, 3, .null, false),
  (91, .goto 8, 0, 57, 0, .null, false),
  (94, .aload_n 0, 55, 0, 0, .null, false),
  (95, .iload_n 1, 56, 1, 0, .null, false),
  (96, .invokevirtual 154, 57, 150, 2, .null, false),
  (99, .ireturn, 0, 0, 0, .null, true)]
def q_X6_mark : List (List mm_N) := [q_X6_mark_0, q_X6_mark_1]
def q_X6_reverse_0 : List mm_N := [(0, .aload_n 0, 1, 0, 0, .null, false),
  (1, .iload_n 1, 2, 1, 0, .null, false),
  (2, .invokevirtual 135, 3, 143, 2, .null, false),
  (5, .ifCond .eq 12, 4, 9, 0, .null, false),
  (8, .iload_n 2, 5, 2, 0, .null, false),
  (9, .iconst 0, 6, 0, 0, .int 0, false),
  (10, .iconst 1, 7, 0, 0, .int 1, false),
  (11, .invokestatic 72, 8, 117, 3, .null, false),
  (14, .ifCond .ne 5, 9, 11, 0, .null, false),
  (17, .iconst (-1), 10, 0, 0, .int (-1), true),
  (18, .ireturn, 0, 0, 0, .null, false),
  (19, .aload_n 0, 12, 0, 0, .null, false),
  (20, .getfield 38, 13, 6, 13, .null, false),
  (23, .iload_n 1, 14, 1, 0, .null, false),
  (24, .iaload, 15, 0, 0, .null, false),
  (25, .istore_n 3, 16, 3, 0, .null, false),
  (26, .aload_n 0, 17, 0, 0, .null, false),
  (27, .getfield 38, 18, 6, 13, .null, false),
  (30, .iload_n 1, 19, 1, 0, .null, false),
  (31, .iload_n 2, 20, 2, 0, .null, false),
  (32, .iastore, 21, 0, 0, .null, false),
  (33, .iload_n 3, 22, 3, 0, .null, false),
  (34, .ireturn, 0, 0, 0, .null, false)]
def q_X6_reverse : List (List mm_N) := [q_X6_reverse_0]
def q_X6_marks_0 : List mm_N := [(0, .aload_n 0, 1, 0, 0, .null, false),
  (1, .iload_n 1, 2, 1, 0, .null, false),
  (2, .invokevirtual 135, 3, 143, 2, .null, false),
  (5, .ifCond .eq 13, 4, 9, 0, .null, false),
  (8, .iload_n 2, 5, 2, 0, .null, false),
  (9, .iconst 0, 6, 0, 0, .int 0, false),
  (10, .bipush 31, 7, 0, 0, .int 31, false),
  (12, .invokestatic 72, 8, 117, 3, .null, false),
  (15, .ifCond .ne 5, 9, 11, 0, .null, false),
  (18, .iconst (-1), 10, 0, 0, .int (-1), true),
  (19, .ireturn, 0, 0, 0, .null, false),
  (20, .aload_n 0, 12, 0, 0, .null, false),
  (21, .getfield 47, 13, 6, 16, .null, false),
  (24, .iload_n 1, 14, 1, 0, .null, false),
  (25, .iaload, 15, 0, 0, .null, false),
  (26, .istore_n 3, 16, 3, 0, .null, false),
  (27, .aload_n 0, 17, 0, 0, .null, false),
  (28, .getfield 47, 18, 6, 16, .null, false),
  (31, .iload_n 1, 19, 1, 0, .null, false),
  (32, .iload_n 2, 20, 2, 0, .null, false),
  (33, .iastore, 21, 0, 0, .null, false),
  (34, .iload_n 3, 22, 3, 0, .null, false),
  (35, .ireturn, 0, 0, 0, .null, false)]
def q_X6_marks : List (List mm_N) := [q_X6_marks_0]
def q_X6_file_0 : List mm_N := [(0, .iload_n 1, 1, 1, 0, .null, false),
  (1, .iconst 0, 2, 0, 0, .int 0, false),
  (2, .iconst 5, 3, 0, 0, .int 5, false),
  (3, .invokestatic 72, 4, 117, 3, .null, false),
  (6, .ifCond .eq 26, 5, 17, 0, .null, false),
  (9, .iload_n 2, 6, 2, 0, .null, false),
  (10, .iconst 0, 7, 0, 0, .int 0, false),
  (11, .bipush 9, 8, 0, 0, .int 9, false),
  (13, .invokestatic 72, 9, 117, 3, .null, false),
  (16, .ifCond .eq 16, 10, 17, 0, .null, false),
  (19, .iload_n 3, 11, 3, 0, .null, false),
  (20, .iconst 0, 12, 0, 0, .int 0, false),
  (21, .iconst 1, 13, 0, 0, .int 1, false),
  (22, .invokestatic 72, 14, 117, 3, .null, false),
  (25, .ifCond .eq 7, 15, 17, 0, .null, false),
  (28, .iconst 1, 16, 0, 0, .int 1, false),
  (29, .goto 4, 0, 18, 0, .null, false),
  (32, .iconst 0, 18, 0, 0, .int 0, true),
  (33, .istore 6, 19, 6, 0, .null, true),
  (35, .aload_n 0, 20, 0, 0, .null, false),
  (36, .iload 4, 21, 4, 0, .null, false),
  (38, .invokevirtual 135, 22, 143, 2, .null, false),
  (41, .ifCond .eq 19, 23, 31, 0, .null, false),
  (44, .iload 5, 24, 5, 0, .null, false),
  (46, .iconst 1, 25, 0, 0, .int 1, false),
  (47, .if_icmp .eq 9, 26, 29, 0, .null, false),
  (50, .iload 5, 27, 5, 0, .null, false),
  (52, .iconst (-1), 28, 0, 0, .int (-1), false),
  (53, .if_icmp .ne 7, 29, 31, 0, .null, false),
  (56, .iconst 1, 30, 0, 0, .int 1, true),
  (57, .goto 4, 0, 32, 0, .null, false),
  (60, .iconst 0, 32, 0, 0, .int 0, true)]
def q_X6_file_1 : List mm_N := [(61, .istore 7, 33, 7, 0, .null, true),
  (63, .iload 6, 34, 6, 0, .null, false),
  (65, .ifCond .eq 36, 35, 50, 0, .null, false),
  (68, .iload 7, 36, 7, 0, .null, false),
  (70, .ifCond .ne 15, 37, 42, 0, .null, false),
  (73, .iload 4, 38, 4, 0, .null, false),
  (75, .bipush (-9), 39, 0, 0, .int (-9), false),
  (77, .if_icmp .ne 24, 40, 50, 0, .null, false),
  (80, .iload 5, 41, 5, 0, .null, false),
  (82, .ifCond .ne 19, 42, 50, 0, .null, false),
  (85, .iload 7, 43, 7, 0, .null, true),
  (87, .ifCond .eq 16, 44, 52, 0, .null, false),
  (90, .aload_n 0, 45, 0, 0, .null, false),
  (91, .getfield 35, 46, 6, 12, .null, false),
  (94, .iload 4, 47, 4, 0, .null, false),
  (96, .iaload, 48, 0, 0, .null, false),
  (97, .iload_n 2, 49, 2, 0, .null, false),
  (98, .if_icmp .lt 5, 50, 52, 0, .null, false),
  (101, .iconst (-1), 51, 0, 0, .int (-1), true),
  (102, .ireturn, 0, 0, 0, .null, false),
  (103, .aload_n 0, 53, 0, 0, .null, true),
  (104, .getfield 121, 54, 6, 10, .null, false),
  (107, .bipush 9, 55, 0, 0, .int 9, false),
  (109, .if_icmp .ne 6, 56, 58, 0, .null, false),
  (112, .bipush (-2), 57, 0, 0, .int (-2), false),
  (114, .ireturn, 0, 0, 0, .null, false),
  (115, .aload_n 0, 59, 0, 0, .null, false),
  (116, .iload_n 1, 60, 1, 0, .null, false),
  (117, .iload_n 2, 61, 2, 0, .null, false),
  (118, .iload_n 3, 62, 3, 0, .null, false),
  (119, .iload 4, 63, 4, 0, .null, false),
  (121, .iload 5, 64, 5, 0, .null, false)]
def q_X6_file_2 : List mm_N := [(123, .iconst 0, 65, 0, 0, .int 0, false),
  (124, .invokevirtual 124, 66, 141, 7, .null, false),
  (127, .aload_n 0, 67, 0, 0, .null, false),
  (128, .getfield 121, 68, 6, 10, .null, false),
  (131, .iconst 1, 69, 0, 0, .int 1, false),
  (132, .isub, 70, 0, 0, .null, false),
  (133, .ireturn, 0, 0, 0, .null, false)]
def q_X6_file : List (List mm_N) := [q_X6_file_0, q_X6_file_1, q_X6_file_2]
def q_X6_strike_0 : List mm_N := [(0, .iload_n 1, 1, 1, 0, .null, false),
  (1, .iconst 0, 2, 0, 0, .int 0, false),
  (2, .aload_n 0, 3, 0, 0, .null, false),
  (3, .getfield 121, 4, 6, 10, .null, false),
  (6, .invokestatic 72, 5, 117, 3, .null, false),
  (9, .ifCond .ne 5, 6, 8, 0, .null, false),
  (12, .iconst (-1), 7, 0, 0, .int (-1), false),
  (13, .ireturn, 0, 0, 0, .null, false),
  (14, .aload_n 0, 9, 0, 0, .null, false),
  (15, .getfield 121, 10, 6, 10, .null, false),
  (18, .iload_n 1, 11, 1, 0, .null, false),
  (19, .isub, 12, 0, 0, .null, false),
  (20, .istore_n 2, 13, 2, 0, .null, false),
  (21, .iconst 0, 14, 0, 0, .int 0, false),
  (22, .istore_n 3, 15, 3, 0, .null, false),
  (23, .iload_n 3, 16, 3, 0, .null, true),
  (24, .iload_n 1, 17, 1, 0, .null, false),
  (25, .if_icmp .ge 69, 18, 54, 0, .null, false),
  (28, .aload_n 0, 19, 0, 0, .null, false),
  (29, .getfield 41, 20, 6, 14, .null, false),
  (32, .iload_n 3, 21, 3, 0, .null, false),
  (33, .iaload, 22, 0, 0, .null, false),
  (34, .iload_n 1, 23, 1, 0, .null, false),
  (35, .if_icmp .lt 7, 24, 26, 0, .null, false),
  (38, .iconst 1, 25, 0, 0, .int 1, false),
  (39, .goto 4, 0, 27, 0, .null, false),
  (42, .iconst 0, 27, 0, 0, .int 0, false),
  (43, .istore 4, 28, 4, 0, .null, true),
  (45, .aload_n 0, 29, 0, 0, .null, false),
  (46, .getfield 41, 30, 6, 14, .null, false),
  (49, .iload_n 3, 31, 3, 0, .null, false),
  (50, .iload 4, 32, 4, 0, .null, false)]
def q_X6_strike_1 : List mm_N := [(52, .ifCond .eq 8, 33, 35, 0, .null, false),
  (55, .bipush (-9), 34, 0, 0, .int (-9), false),
  (57, .goto 9, 0, 39, 0, .null, false),
  (60, .aload_n 0, 36, 0, 0, .null, false),
  (61, .getfield 41, 37, 6, 14, .null, false),
  (64, .iload_n 3, 38, 3, 0, .null, false),
  (65, .iaload, 39, 0, 0, .null, false),
  (66, .iastore, 40, 0, 0, .null, true),
  (67, .aload_n 0, 41, 0, 0, .null, false),
  (68, .getfield 44, 42, 6, 15, .null, false),
  (71, .iload_n 3, 43, 3, 0, .null, false),
  (72, .iload 4, 44, 4, 0, .null, false),
  (74, .ifCond .eq 7, 45, 47, 0, .null, false),
  (77, .iconst 0, 46, 0, 0, .int 0, false),
  (78, .goto 9, 0, 51, 0, .null, false),
  (81, .aload_n 0, 48, 0, 0, .null, false),
  (82, .getfield 44, 49, 6, 15, .null, false),
  (85, .iload_n 3, 50, 3, 0, .null, false),
  (86, .iaload, 51, 0, 0, .null, false),
  (87, .iastore, 52, 0, 0, .null, true),
  (88, .iinc 3 1, 53, 3, 0, .int 1, false),
  (91, .goto (-68), 0, 15, 0, .null, false),
  (94, .aload_n 0, 55, 0, 0, .null, false),
  (95, .iload_n 1, 56, 1, 0, .null, false),
  (96, .putfield 121, 57, 6, 10, .null, false),
  (99, .iload_n 2, 58, 2, 0, .null, false),
  (100, .ireturn, 0, 0, 0, .null, false)]
def q_X6_strike : List (List mm_N) := [q_X6_strike_0, q_X6_strike_1]
def q_X6_keep_0 : List mm_N := [(0, .iload_n 1, 1, 1, 0, .null, false),
  (1, .iconst 0, 2, 0, 0, .int 0, false),
  (2, .iconst 2, 3, 0, 0, .int 2, false),
  (3, .invokestatic 72, 4, 117, 3, .null, false),
  (6, .ifCond .ne 5, 5, 7, 0, .null, false),
  (9, .iconst (-1), 6, 0, 0, .int (-1), false),
  (10, .ireturn, 0, 0, 0, .null, false),
  (11, .aload_n 0, 8, 0, 0, .null, false),
  (12, .getfield 121, 9, 6, 10, .null, false),
  (15, .ifCond .ne 6, 10, 12, 0, .null, false),
  (18, .bipush (-4), 11, 0, 0, .int (-4), false),
  (20, .ireturn, 0, 0, 0, .null, false),
  (21, .aload_n 0, 13, 0, 0, .null, false),
  (22, .getfield 50, 14, 6, 17, .null, false),
  (25, .iload_n 1, 15, 1, 0, .null, false),
  (26, .aload_n 0, 16, 0, 0, .null, false),
  (27, .getfield 121, 17, 6, 10, .null, false),
  (30, .iastore, 18, 0, 0, .null, false),
  (31, .iconst 0, 19, 0, 0, .int 0, false),
  (32, .istore_n 2, 20, 2, 0, .null, false),
  (33, .iload_n 2, 21, 2, 0, .null, true),
  (34, .aload_n 0, 22, 0, 0, .null, false),
  (35, .getfield 121, 23, 6, 10, .null, false),
  (38, .if_icmp .ge 45, 24, 49, 0, .null, false),
  (41, .iconst 0, 25, 0, 0, .int 0, false),
  (42, .istore_n 3, 26, 3, 0, .null, false),
  (43, .iload_n 3, 27, 3, 0, .null, true),
  (44, .bipush 6, 28, 0, 0, .int 6, false),
  (46, .if_icmp .ge 31, 29, 47, 0, .null, false),
  (49, .aload_n 0, 30, 0, 0, .null, false),
  (50, .getfield 53, 31, 6, 18, .null, false),
  (53, .bipush 54, 32, 0, 0, .int 54, false)]
def q_X6_keep_1 : List mm_N := [(55, .iload_n 1, 33, 1, 0, .null, false),
  (56, .imul, 34, 0, 0, .null, false),
  (57, .bipush 6, 35, 0, 0, .int 6, false),
  (59, .iload_n 2, 36, 2, 0, .null, false),
  (60, .imul, 37, 0, 0, .null, false),
  (61, .iadd, 38, 0, 0, .null, false),
  (62, .iload_n 3, 39, 3, 0, .null, false),
  (63, .iadd, 40, 0, 0, .null, false),
  (64, .aload_n 0, 41, 0, 0, .null, false),
  (65, .iload_n 2, 42, 2, 0, .null, false),
  (66, .iload_n 3, 43, 3, 0, .null, false),
  (67, .invokevirtual 138, 44, 146, 3, .null, false),
  (70, .iastore, 45, 0, 0, .null, false),
  (71, .iinc 3 1, 46, 3, 0, .int 1, false),
  (74, .goto (-31), 0, 26, 0, .null, false),
  (77, .iinc 2 1, 48, 2, 0, .int 1, false),
  (80, .goto (-47), 0, 20, 0, .null, false),
  (83, .aload_n 0, 50, 0, 0, .null, false),
  (84, .getfield 121, 51, 6, 10, .null, false),
  (87, .ireturn, 0, 0, 0, .null, false)]
def q_X6_keep : List (List mm_N) := [q_X6_keep_0, q_X6_keep_1]
def q_X6_on_0 : List mm_N := [(0, .iload_n 1, 1, 1, 0, .null, false),
  (1, .iconst 0, 2, 0, 0, .int 0, false),
  (2, .iconst 2, 3, 0, 0, .int 2, false),
  (3, .invokestatic 72, 4, 117, 3, .null, false),
  (6, .ifCond .ne 5, 5, 7, 0, .null, false),
  (9, .iconst (-1), 6, 0, 0, .int (-1), false),
  (10, .ireturn, 0, 0, 0, .null, false),
  (11, .aload_n 0, 8, 0, 0, .null, false),
  (12, .getfield 50, 9, 6, 17, .null, false),
  (15, .iload_n 1, 10, 1, 0, .null, false),
  (16, .iaload, 11, 0, 0, .null, false),
  (17, .ifCond .ge 9, 12, 16, 0, .null, false),
  (20, .aload_n 0, 13, 0, 0, .null, false),
  (21, .iconst 1, 14, 0, 0, .int 1, false),
  (22, .invokevirtual 80, 15, 120, 2, .null, false),
  (25, .ireturn, 0, 0, 0, .null, false),
  (26, .aload_n 0, 17, 0, 0, .null, false),
  (27, .iconst 0, 18, 0, 0, .int 0, false),
  (28, .putfield 121, 19, 6, 10, .null, false),
  (31, .iconst 0, 20, 0, 0, .int 0, false),
  (32, .istore_n 2, 21, 2, 0, .null, false),
  (33, .iload_n 2, 22, 2, 0, .null, true),
  (34, .aload_n 0, 23, 0, 0, .null, false),
  (35, .getfield 50, 24, 6, 17, .null, false),
  (38, .iload_n 1, 25, 1, 0, .null, false),
  (39, .iaload, 26, 0, 0, .null, false),
  (40, .if_icmp .ge 69, 27, 73, 0, .null, false),
  (43, .bipush 54, 28, 0, 0, .int 54, false),
  (45, .iload_n 1, 29, 1, 0, .null, false),
  (46, .imul, 30, 0, 0, .null, false),
  (47, .bipush 6, 31, 0, 0, .int 6, false),
  (49, .iload_n 2, 32, 2, 0, .null, false)]
def q_X6_on_1 : List mm_N := [(50, .imul, 33, 0, 0, .null, false),
  (51, .iadd, 34, 0, 0, .null, false),
  (52, .istore_n 3, 35, 3, 0, .null, false),
  (53, .aload_n 0, 36, 0, 0, .null, false),
  (54, .aload_n 0, 37, 0, 0, .null, false),
  (55, .getfield 53, 38, 6, 18, .null, false),
  (58, .iload_n 3, 39, 3, 0, .null, false),
  (59, .iaload, 40, 0, 0, .null, false),
  (60, .aload_n 0, 41, 0, 0, .null, false),
  (61, .getfield 53, 42, 6, 18, .null, false),
  (64, .iload_n 3, 43, 3, 0, .null, false),
  (65, .iconst 1, 44, 0, 0, .int 1, false),
  (66, .iadd, 45, 0, 0, .null, false),
  (67, .iaload, 46, 0, 0, .null, false),
  (68, .aload_n 0, 47, 0, 0, .null, false),
  (69, .getfield 53, 48, 6, 18, .null, false),
  (72, .iload_n 3, 49, 3, 0, .null, false),
  (73, .iconst 2, 50, 0, 0, .int 2, false),
  (74, .iadd, 51, 0, 0, .null, false),
  (75, .iaload, 52, 0, 0, .null, false),
  (76, .aload_n 0, 53, 0, 0, .null, false),
  (77, .getfield 53, 54, 6, 18, .null, false),
  (80, .iload_n 3, 55, 3, 0, .null, false),
  (81, .iconst 3, 56, 0, 0, .int 3, false),
  (82, .iadd, 57, 0, 0, .null, false),
  (83, .iaload, 58, 0, 0, .null, false),
  (84, .aload_n 0, 59, 0, 0, .null, false),
  (85, .getfield 53, 60, 6, 18, .null, false),
  (88, .iload_n 3, 61, 3, 0, .null, false),
  (89, .iconst 4, 62, 0, 0, .int 4, false),
  (90, .iadd, 63, 0, 0, .null, false),
  (91, .iaload, 64, 0, 0, .null, false)]
def q_X6_on_2 : List mm_N := [(92, .aload_n 0, 65, 0, 0, .null, false),
  (93, .getfield 53, 66, 6, 18, .null, false),
  (96, .iload_n 3, 67, 3, 0, .null, false),
  (97, .iconst 5, 68, 0, 0, .int 5, false),
  (98, .iadd, 69, 0, 0, .null, false),
  (99, .iaload, 70, 0, 0, .null, false),
  (100, .invokevirtual 124, 71, 141, 7, .null, false),
  (103, .iinc 2 1, 72, 2, 0, .int 1, false),
  (106, .goto (-73), 0, 21, 0, .null, false),
  (109, .aload_n 0, 74, 0, 0, .null, false),
  (110, .getfield 121, 75, 6, 10, .null, false),
  (113, .ireturn, 0, 0, 0, .null, false)]
def q_X6_on : List (List mm_N) := [q_X6_on_0, q_X6_on_1, q_X6_on_2]
def q_X6_all_0 : List mm_N := [(0, .aload_n 0, 1, 0, 0, .null, false),
  (1, .iconst 1, 2, 0, 0, .int 1, false),
  (2, .aload_n 0, 3, 0, 0, .null, false),
  (3, .getfield 121, 4, 6, 10, .null, false),
  (6, .ishl, 5, 0, 0, .null, false),
  (7, .iconst 1, 6, 0, 0, .int 1, false),
  (8, .isub, 7, 0, 0, .null, false),
  (9, .putfield 157, 8, 6, 19, .null, false),
  (12, .iconst 0, 9, 0, 0, .int 0, false),
  (13, .istore_n 1, 10, 1, 0, .null, false),
  (14, .iload_n 1, 11, 1, 0, .null, true),
  (15, .bipush 9, 12, 0, 0, .int 9, false),
  (17, .if_icmp .ge 16, 13, 20, 0, .null, false),
  (20, .aload_n 0, 14, 0, 0, .null, false),
  (21, .getfield 56, 15, 6, 20, .null, false),
  (24, .iload_n 1, 16, 1, 0, .null, false),
  (25, .iconst 0, 17, 0, 0, .int 0, false),
  (26, .iastore, 18, 0, 0, .null, false),
  (27, .iinc 1 1, 19, 1, 0, .int 1, false),
  (30, .goto (-16), 0, 10, 0, .null, false),
  (33, .return_, 0, 0, 0, .null, false)]
def q_X6_all : List (List mm_N) := [q_X6_all_0]
def q_X6_isDue_0 : List mm_N := [(0, .aload_n 0, 1, 0, 0, .null, false),
  (1, .getfield 56, 2, 6, 20, .null, false),
  (4, .iload_n 1, 3, 1, 0, .null, false),
  (5, .iaload, 4, 0, 0, .null, false),
  (6, .istore 6, 5, 6, 0, .null, false),
  (8, .iconst 0, 6, 0, 0, .int 0, false),
  (9, .istore 7, 7, 7, 0, .null, false),
  (11, .iconst 0, 8, 0, 0, .int 0, false),
  (12, .istore 8, 9, 8, 0, .null, false),
  (14, .iconst 0, 10, 0, 0, .int 0, false),
  (15, .istore 9, 11, 9, 0, .null, false),
  (17, .iload 9, 12, 9, 0, .null, true),
  (19, .aload_n 0, 13, 0, 0, .null, false),
  (20, .getfield 121, 14, 6, 10, .null, false),
  (23, .if_icmp .ge 141, 15, 85, 0, .null, false),
  (26, .iload_n 2, 16, 2, 0, .null, false),
  (27, .aload_n 0, 17, 0, 0, .null, false),
  (28, .getfield 157, 18, 6, 19, .null, false),
  (31, .iand, 19, 0, 0, .null, false),
  (32, .iload 9, 20, 9, 0, .null, false),
  (34, .invokestatic 160, 21, 118, 2, .null, false),
  (37, .istore 10, 22, 10, 0, .null, false),
  (39, .iload 10, 23, 10, 0, .null, false),
  (41, .ifCond .eq 25, 24, 35, 0, .null, false),
  (44, .aload_n 0, 25, 0, 0, .null, false),
  (45, .getfield 41, 26, 6, 14, .null, false),
  (48, .iload 9, 27, 9, 0, .null, false),
  (50, .iaload, 28, 0, 0, .null, false),
  (51, .iload_n 1, 29, 1, 0, .null, false),
  (52, .if_icmp .ne 14, 30, 35, 0, .null, false),
  (55, .iload 9, 31, 9, 0, .null, false),
  (57, .iload 5, 32, 5, 0, .null, false)]
def q_X6_isDue_1 : List mm_N := [(59, .if_icmp .eq 7, 33, 35, 0, .null, false),
  (62, .iconst 1, 34, 0, 0, .int 1, false),
  (63, .goto 4, 0, 36, 0, .null, false),
  (66, .iconst 0, 36, 0, 0, .int 0, true),
  (67, .istore 11, 37, 11, 0, .null, true),
  (69, .iload 6, 38, 6, 0, .null, false),
  (71, .iload 11, 39, 11, 0, .null, false),
  (73, .ifCond .eq 17, 40, 47, 0, .null, false),
  (76, .aload_n 0, 41, 0, 0, .null, false),
  (77, .getfield 44, 42, 6, 15, .null, false),
  (80, .iload 9, 43, 9, 0, .null, false),
  (82, .iaload, 44, 0, 0, .null, false),
  (83, .ifCond .ge 7, 45, 47, 0, .null, false),
  (86, .iconst 1, 46, 0, 0, .int 1, false),
  (87, .goto 4, 0, 48, 0, .null, false),
  (90, .iconst 0, 48, 0, 0, .int 0, true),
  (91, .iadd, 49, 0, 0, .null, true),
  (92, .istore 6, 50, 6, 0, .null, false),
  (94, .iload 7, 51, 7, 0, .null, false),
  (96, .iload 11, 52, 11, 0, .null, false),
  (98, .ifCond .eq 17, 53, 60, 0, .null, false),
  (101, .aload_n 0, 54, 0, 0, .null, false),
  (102, .getfield 44, 55, 6, 15, .null, false),
  (105, .iload 9, 56, 9, 0, .null, false),
  (107, .iaload, 57, 0, 0, .null, false),
  (108, .ifCond .le 7, 58, 60, 0, .null, false),
  (111, .iconst 1, 59, 0, 0, .int 1, false),
  (112, .goto 4, 0, 61, 0, .null, false),
  (115, .iconst 0, 61, 0, 0, .int 0, true),
  (116, .iadd, 62, 0, 0, .null, true),
  (117, .istore 7, 63, 7, 0, .null, false),
  (119, .iload 8, 64, 8, 0, .null, false)]
def q_X6_isDue_2 : List mm_N := [(121, .ifCond .ne 30, 65, 79, 0, .null, false),
  (124, .iload 10, 66, 10, 0, .null, false),
  (126, .ifCond .eq 29, 67, 81, 0, .null, false),
  (129, .iload 9, 68, 9, 0, .null, false),
  (131, .iload_n 1, 69, 1, 0, .null, false),
  (132, .if_icmp .eq 23, 70, 81, 0, .null, false),
  (135, .aload_n 0, 71, 0, 0, .null, false),
  (136, .getfield 35, 72, 6, 12, .null, false),
  (139, .iload 9, 73, 9, 0, .null, false),
  (141, .iaload, 74, 0, 0, .null, false),
  (142, .aload_n 0, 75, 0, 0, .null, false),
  (143, .getfield 35, 76, 6, 12, .null, false),
  (146, .iload_n 1, 77, 1, 0, .null, false),
  (147, .iaload, 78, 0, 0, .null, false),
  (148, .if_icmp .ne 7, 79, 81, 0, .null, false),
  (151, .iconst 1, 80, 0, 0, .int 1, true),
  (152, .goto 4, 0, 82, 0, .null, false),
  (155, .iconst 0, 82, 0, 0, .int 0, true),
  (156, .istore 8, 83, 8, 0, .null, true),
  (158, .iinc 9 1, 84, 9, 0, .int 1, false),
  (161, .goto (-144), 0, 11, 0, .null, false),
  (164, .iload 4, 86, 4, 0, .null, false),
  (166, .bipush (-9), 87, 0, 0, .int (-9), false),
  (168, .if_icmp .eq 17, 88, 95, 0, .null, false),
  (171, .iload_n 2, 89, 2, 0, .null, false),
  (172, .aload_n 0, 90, 0, 0, .null, false),
  (173, .getfield 157, 91, 6, 19, .null, false),
  (176, .iand, 92, 0, 0, .null, false),
  (177, .iload 4, 93, 4, 0, .null, false),
  (179, .invokestatic 160, 94, 118, 2, .null, false),
  (182, .ifCond .eq 7, 95, 97, 0, .null, false),
  (185, .iconst 1, 96, 0, 0, .int 1, true)]
def q_X6_isDue_3 : List mm_N := [(186, .goto 4, 0, 98, 0, .null, false),
  (189, .iconst 0, 98, 0, 0, .int 0, false),
  (190, .istore 9, 99, 9, 0, .null, true),
  (192, .iload_n 3, 100, 3, 0, .null, false),
  (193, .tableswitch 102 1 5 #[35, 51, 63, 79, 100], 0, 0, 136, .null, false),
  (228, .iload 6, 102, 6, 0, .null, false),
  (230, .ifCond .ne 12, 103, 107, 0, .null, false),
  (233, .iload 9, 104, 9, 0, .null, false),
  (235, .ifCond .eq 7, 105, 107, 0, .null, false),
  (238, .iconst 1, 106, 0, 0, .int 1, false),
  (239, .goto 4, 0, 108, 0, .null, false),
  (242, .iconst 0, 108, 0, 0, .int 0, true),
  (243, .ireturn, 0, 0, 0, .null, true),
  (244, .iload 6, 110, 6, 0, .null, false),
  (246, .iconst 2, 111, 0, 0, .int 2, false),
  (247, .if_icmp .ge 7, 112, 114, 0, .null, false),
  (250, .iconst 1, 113, 0, 0, .int 1, false),
  (251, .goto 4, 0, 115, 0, .null, false),
  (254, .iconst 0, 115, 0, 0, .int 0, false),
  (255, .ireturn, 0, 0, 0, .null, true),
  (256, .iload 6, 117, 6, 0, .null, false),
  (258, .ifCond .ne 12, 118, 122, 0, .null, false),
  (261, .iload 7, 119, 7, 0, .null, false),
  (263, .ifCond .le 7, 120, 122, 0, .null, false),
  (266, .iconst 1, 121, 0, 0, .int 1, false),
  (267, .goto 4, 0, 123, 0, .null, false),
  (270, .iconst 0, 123, 0, 0, .int 0, true),
  (271, .ireturn, 0, 0, 0, .null, true),
  (272, .iload 6, 125, 6, 0, .null, false),
  (274, .ifCond .ne 17, 126, 132, 0, .null, false),
  (277, .iload 9, 127, 9, 0, .null, false),
  (279, .ifCond .eq 12, 128, 132, 0, .null, false)]
def q_X6_isDue_4 : List mm_N := [(282, .iload 8, 129, 8, 0, .null, false),
  (284, .ifCond .eq 7, 130, 132, 0, .null, false),
  (287, .iconst 1, 131, 0, 0, .int 1, false),
  (288, .goto 4, 0, 133, 0, .null, false),
  (291, .iconst 0, 133, 0, 0, .int 0, true),
  (292, .ireturn, 0, 0, 0, .null, true),
  (293, .iconst 1, 135, 0, 0, .int 1, false),
  (294, .ireturn, 0, 0, 0, .null, false),
  (295, .iload 6, 137, 6, 0, .null, false),
  (297, .ifCond .ne 7, 138, 140, 0, .null, false),
  (300, .iconst 1, 139, 0, 0, .int 1, false),
  (301, .goto 4, 0, 141, 0, .null, false),
  (304, .iconst 0, 141, 0, 0, .int 0, false),
  (305, .ireturn, 0, 0, 0, .null, true)]
def q_X6_isDue : List (List mm_N) := [q_X6_isDue_0, q_X6_isDue_1, q_X6_isDue_2, q_X6_isDue_3, q_X6_isDue_4]
def q_X6_dueBy_0 : List mm_N := [(0, .iconst 0, 1, 0, 0, .int 0, false),
  (1, .istore_n 2, 2, 2, 0, .null, false),
  (2, .iconst 0, 3, 0, 0, .int 0, false),
  (3, .istore_n 3, 4, 3, 0, .null, false),
  (4, .iload_n 3, 5, 3, 0, .null, true),
  (5, .aload_n 0, 6, 0, 0, .null, false),
  (6, .getfield 121, 7, 6, 10, .null, false),
  (9, .if_icmp .ge 53, 8, 37, 0, .null, false),
  (12, .iload_n 2, 9, 2, 0, .null, false),
  (13, .aload_n 0, 10, 0, 0, .null, false),
  (14, .getfield 157, 11, 6, 19, .null, false),
  (17, .iload_n 3, 12, 3, 0, .null, false),
  (18, .invokestatic 160, 13, 118, 2, .null, false),
  (21, .ifCond .eq 32, 14, 32, 0, .null, false),
  (24, .aload_n 0, 15, 0, 0, .null, false),
  (25, .iload_n 3, 16, 3, 0, .null, false),
  (26, .iload_n 1, 17, 1, 0, .null, false),
  (27, .aload_n 0, 18, 0, 0, .null, false),
  (28, .getfield 32, 19, 6, 11, .null, false),
  (31, .iload_n 3, 20, 3, 0, .null, false),
  (32, .iaload, 21, 0, 0, .null, false),
  (33, .aload_n 0, 22, 0, 0, .null, false),
  (34, .getfield 41, 23, 6, 14, .null, false),
  (37, .iload_n 3, 24, 3, 0, .null, false),
  (38, .iaload, 25, 0, 0, .null, false),
  (39, .bipush (-9), 26, 0, 0, .int (-9), false),
  (41, .invokevirtual 163, 27, 159, 6, .null, false),
  (44, .ifCond .eq 9, 28, 32, 0, .null, false),
  (47, .iconst 1, 29, 0, 0, .int 1, false),
  (48, .iload_n 3, 30, 3, 0, .null, false),
  (49, .ishl, 31, 0, 0, .null, false),
  (50, .goto 4, 0, 33, 0, .null, false)]
def q_X6_dueBy_1 : List mm_N := [(53, .iconst 0, 33, 0, 0, .int 0, true),
  (54, .ior, 34, 0, 0, .null, true),
  (55, .istore_n 2, 35, 2, 0, .null, false),
  (56, .iinc 3 1, 36, 3, 0, .int 1, false),
  (59, .goto (-55), 0, 4, 0, .null, false),
  (62, .iload_n 2, 38, 2, 0, .null, false),
  (63, .ireturn, 0, 0, 0, .null, false)]
def q_X6_dueBy : List (List mm_N) := [q_X6_dueBy_0, q_X6_dueBy_1]
def q_X6_isWay_0 : List mm_N := [(0, .iload_n 1, 1, 1, 0, .null, false),
  (1, .aload_n 0, 2, 0, 0, .null, false),
  (2, .getfield 157, 3, 6, 19, .null, false),
  (5, .iconst (-1), 4, 0, 0, .int (-1), false),
  (6, .ixor, 5, 0, 0, .null, false),
  (7, .iand, 6, 0, 0, .null, false),
  (8, .ifCond .ne 16, 7, 14, 0, .null, false),
  (11, .aload_n 0, 8, 0, 0, .null, false),
  (12, .iload_n 1, 9, 1, 0, .null, false),
  (13, .invokevirtual 167, 10, 160, 2, .null, false),
  (16, .iload_n 1, 11, 1, 0, .null, false),
  (17, .if_icmp .ne 7, 12, 14, 0, .null, false),
  (20, .iconst 1, 13, 0, 0, .int 1, false),
  (21, .goto 4, 0, 15, 0, .null, false),
  (24, .iconst 0, 15, 0, 0, .int 0, true),
  (25, .ireturn, 0, 0, 0, .null, true)]
def q_X6_isWay : List (List mm_N) := [q_X6_isWay_0]
def q_X6_due_0 : List mm_N := [(0, .aload_n 0, 1, 0, 0, .null, false),
  (1, .iload_n 1, 2, 1, 0, .null, false),
  (2, .invokevirtual 170, 3, 144, 2, .null, false),
  (5, .ifCond .ne 5, 4, 6, 0, .null, false),
  (8, .iconst (-1), 5, 0, 0, .int (-1), false),
  (9, .ireturn, 0, 0, 0, .null, false),
  (10, .aload_n 0, 7, 0, 0, .null, false),
  (11, .invokevirtual 145, 8, 158, 1, .null, false),
  (14, .aload_n 0, 9, 0, 0, .null, false),
  (15, .iload_n 1, 10, 1, 0, .null, false),
  (16, .invokevirtual 167, 11, 160, 2, .null, false),
  (19, .ireturn, 0, 0, 0, .null, false)]
def q_X6_due : List (List mm_N) := [q_X6_due_0]
def q_X6_wayMany_0 : List mm_N := [(0, .iconst 0, 1, 0, 0, .int 0, false),
  (1, .istore_n 1, 2, 1, 0, .null, false),
  (2, .iconst 0, 3, 0, 0, .int 0, false),
  (3, .istore_n 2, 4, 2, 0, .null, false),
  (4, .iload_n 2, 5, 2, 0, .null, true),
  (5, .iconst 1, 6, 0, 0, .int 1, false),
  (6, .aload_n 0, 7, 0, 0, .null, false),
  (7, .getfield 121, 8, 6, 10, .null, false),
  (10, .ishl, 9, 0, 0, .null, false),
  (11, .if_icmp .ge 25, 10, 22, 0, .null, false),
  (14, .iload_n 1, 11, 1, 0, .null, false),
  (15, .aload_n 0, 12, 0, 0, .null, false),
  (16, .iload_n 2, 13, 2, 0, .null, false),
  (17, .invokevirtual 173, 14, 161, 2, .null, false),
  (20, .ifCond .eq 7, 15, 17, 0, .null, false),
  (23, .iconst 1, 16, 0, 0, .int 1, false),
  (24, .goto 4, 0, 18, 0, .null, false),
  (27, .iconst 0, 18, 0, 0, .int 0, false),
  (28, .iadd, 19, 0, 0, .null, true),
  (29, .istore_n 1, 20, 1, 0, .null, false),
  (30, .iinc 2 1, 21, 2, 0, .int 1, false),
  (33, .goto (-29), 0, 4, 0, .null, false),
  (36, .iload_n 1, 23, 1, 0, .null, false),
  (37, .ireturn, 0, 0, 0, .null, false)]
def q_X6_wayMany : List (List mm_N) := [q_X6_wayMany_0]
def q_X6_firstWay_0 : List mm_N := [(0, .iconst 0, 1, 0, 0, .int 0, false),
  (1, .istore_n 1, 2, 1, 0, .null, false),
  (2, .iload_n 1, 3, 1, 0, .null, true),
  (3, .iconst 1, 4, 0, 0, .int 1, false),
  (4, .aload_n 0, 5, 0, 0, .null, false),
  (5, .getfield 121, 6, 6, 10, .null, false),
  (8, .ishl, 7, 0, 0, .null, false),
  (9, .if_icmp .ge 17, 8, 14, 0, .null, false),
  (12, .aload_n 0, 9, 0, 0, .null, false),
  (13, .iload_n 1, 10, 1, 0, .null, false),
  (14, .invokevirtual 173, 11, 161, 2, .null, false),
  (17, .ifCond .ne 9, 12, 14, 0, .null, false),
  (20, .iinc 1 1, 13, 1, 0, .int 1, false),
  (23, .goto (-21), 0, 2, 0, .null, false),
  (26, .iload_n 1, 15, 1, 0, .null, true),
  (27, .iconst 1, 16, 0, 0, .int 1, false),
  (28, .aload_n 0, 17, 0, 0, .null, false),
  (29, .getfield 121, 18, 6, 10, .null, false),
  (32, .ishl, 19, 0, 0, .null, false),
  (33, .if_icmp .ge 7, 20, 22, 0, .null, false),
  (36, .iload_n 1, 21, 1, 0, .null, false),
  (37, .goto 5, 0, 23, 0, .null, false),
  (40, .bipush (-9), 23, 0, 0, .int (-9), false),
  (42, .ireturn, 0, 0, 0, .null, true)]
def q_X6_firstWay : List (List mm_N) := [q_X6_firstWay_0]
def q_X6_standsIn_0 : List mm_N := [(0, .iconst 0, 1, 0, 0, .int 0, false),
  (1, .istore_n 2, 2, 2, 0, .null, false),
  (2, .iconst 0, 3, 0, 0, .int 0, false),
  (3, .istore_n 3, 4, 3, 0, .null, false),
  (4, .iload_n 3, 5, 3, 0, .null, true),
  (5, .iconst 1, 6, 0, 0, .int 1, false),
  (6, .aload_n 0, 7, 0, 0, .null, false),
  (7, .getfield 121, 8, 6, 10, .null, false),
  (10, .ishl, 9, 0, 0, .null, false),
  (11, .if_icmp .ge 33, 10, 26, 0, .null, false),
  (14, .iload_n 2, 11, 2, 0, .null, false),
  (15, .iload_n 3, 12, 3, 0, .null, false),
  (16, .iload_n 1, 13, 1, 0, .null, false),
  (17, .invokestatic 160, 14, 118, 2, .null, false),
  (20, .ifCond .eq 15, 15, 21, 0, .null, false),
  (23, .aload_n 0, 16, 0, 0, .null, false),
  (24, .iload_n 3, 17, 3, 0, .null, false),
  (25, .invokevirtual 173, 18, 161, 2, .null, false),
  (28, .ifCond .eq 7, 19, 21, 0, .null, false),
  (31, .iconst 1, 20, 0, 0, .int 1, false),
  (32, .goto 4, 0, 22, 0, .null, false),
  (35, .iconst 0, 22, 0, 0, .int 0, true),
  (36, .iadd, 23, 0, 0, .null, true),
  (37, .istore_n 2, 24, 2, 0, .null, false),
  (38, .iinc 3 1, 25, 3, 0, .int 1, false),
  (41, .goto (-37), 0, 4, 0, .null, false),
  (44, .iload_n 2, 27, 2, 0, .null, false),
  (45, .ireturn, 0, 0, 0, .null, false)]
def q_X6_standsIn : List (List mm_N) := [q_X6_standsIn_0]
def q_X6_ways_0 : List mm_N := [(0, .aload_n 0, 1, 0, 0, .null, false),
  (1, .invokevirtual 145, 2, 158, 1, .null, false),
  (4, .aload_n 0, 3, 0, 0, .null, false),
  (5, .aload_n 0, 4, 0, 0, .null, false),
  (6, .invokevirtual 176, 5, 164, 1, .null, false),
  (9, .putfield 69, 6, 6, 7, .null, false),
  (12, .aload_n 0, 7, 0, 0, .null, false),
  (13, .invokevirtual 180, 8, 163, 1, .null, false),
  (16, .ireturn, 0, 0, 0, .null, false)]
def q_X6_ways : List (List mm_N) := [q_X6_ways_0]
def q_X6_nth_0 : List mm_N := [(0, .iload_n 1, 1, 1, 0, .null, false),
  (1, .ifCond .ge 5, 2, 4, 0, .null, false),
  (4, .iconst (-1), 3, 0, 0, .int (-1), false),
  (5, .ireturn, 0, 0, 0, .null, false),
  (6, .aload_n 0, 5, 0, 0, .null, false),
  (7, .invokevirtual 145, 6, 158, 1, .null, false),
  (10, .iconst 0, 7, 0, 0, .int 0, false),
  (11, .istore_n 2, 8, 2, 0, .null, false),
  (12, .iconst 0, 9, 0, 0, .int 0, false),
  (13, .istore_n 3, 10, 3, 0, .null, false),
  (14, .iload_n 3, 11, 3, 0, .null, true),
  (15, .iconst 1, 12, 0, 0, .int 1, false),
  (16, .aload_n 0, 13, 0, 0, .null, false),
  (17, .getfield 121, 14, 6, 10, .null, false),
  (20, .ishl, 15, 0, 0, .null, false),
  (21, .if_icmp .ge 27, 16, 28, 0, .null, false),
  (24, .aload_n 0, 17, 0, 0, .null, false),
  (25, .iload_n 3, 18, 3, 0, .null, false),
  (26, .invokevirtual 173, 19, 161, 2, .null, false),
  (29, .ifCond .eq 13, 20, 26, 0, .null, false),
  (32, .iload_n 2, 21, 2, 0, .null, false),
  (33, .iload_n 1, 22, 1, 0, .null, false),
  (34, .if_icmp .ne 5, 23, 25, 0, .null, false),
  (37, .iload_n 3, 24, 3, 0, .null, false),
  (38, .ireturn, 0, 0, 0, .null, false),
  (39, .iinc 2 1, 26, 2, 0, .int 1, false),
  (42, .iinc 3 1, 27, 3, 0, .int 1, true),
  (45, .goto (-31), 0, 10, 0, .null, false),
  (48, .aload_n 0, 29, 0, 0, .null, false),
  (49, .iconst 4, 30, 0, 0, .int 4, false),
  (50, .invokevirtual 80, 31, 120, 2, .null, false),
  (53, .ireturn, 0, 0, 0, .null, false)]
def q_X6_nth : List (List mm_N) := [q_X6_nth_0]
def q_X6_findsSure_0 : List mm_N := [(0, .aload_n 0, 1, 0, 0, .null, false),
  (1, .aload_n 0, 2, 0, 0, .null, false),
  (2, .getfield 157, 3, 6, 19, .null, false),
  (5, .putfield 183, 4, 6, 25, .null, false),
  (8, .aload_n 0, 5, 0, 0, .null, false),
  (9, .aload_n 0, 6, 0, 0, .null, false),
  (10, .getfield 157, 7, 6, 19, .null, false),
  (13, .putfield 186, 8, 6, 26, .null, false),
  (16, .iconst 0, 9, 0, 0, .int 0, false),
  (17, .istore_n 1, 10, 1, 0, .null, false),
  (18, .iconst 0, 11, 0, 0, .int 0, false),
  (19, .istore_n 2, 12, 2, 0, .null, false),
  (20, .iload_n 2, 13, 2, 0, .null, true),
  (21, .iconst 1, 14, 0, 0, .int 1, false),
  (22, .aload_n 0, 15, 0, 0, .null, false),
  (23, .getfield 121, 16, 6, 10, .null, false),
  (26, .ishl, 17, 0, 0, .null, false),
  (27, .if_icmp .ge 41, 18, 40, 0, .null, false),
  (30, .aload_n 0, 19, 0, 0, .null, false),
  (31, .iload_n 2, 20, 2, 0, .null, false),
  (32, .invokevirtual 173, 21, 161, 2, .null, false),
  (35, .ifCond .eq 27, 22, 38, 0, .null, false),
  (38, .aload_n 0, 23, 0, 0, .null, false),
  (39, .dup, 24, 0, 0, .null, false),
  (40, .getfield 183, 25, 6, 25, .null, false),
  (43, .iload_n 2, 26, 2, 0, .null, false),
  (44, .iand, 27, 0, 0, .null, false),
  (45, .putfield 183, 28, 6, 25, .null, false),
  (48, .aload_n 0, 29, 0, 0, .null, false),
  (49, .dup, 30, 0, 0, .null, false),
  (50, .getfield 186, 31, 6, 26, .null, false),
  (53, .iload_n 2, 32, 2, 0, .null, false)]
def q_X6_findsSure_1 : List mm_N := [(54, .iconst (-1), 33, 0, 0, .int (-1), false),
  (55, .ixor, 34, 0, 0, .null, false),
  (56, .iand, 35, 0, 0, .null, false),
  (57, .putfield 186, 36, 6, 26, .null, false),
  (60, .iconst 1, 37, 0, 0, .int 1, false),
  (61, .istore_n 1, 38, 1, 0, .null, false),
  (62, .iinc 2 1, 39, 2, 0, .int 1, true),
  (65, .goto (-45), 0, 12, 0, .null, false),
  (68, .aload_n 0, 41, 0, 0, .null, false),
  (69, .iload_n 1, 42, 1, 0, .null, false),
  (70, .ifCond .eq 10, 43, 46, 0, .null, false),
  (73, .aload_n 0, 44, 0, 0, .null, false),
  (74, .getfield 183, 45, 6, 25, .null, false),
  (77, .goto 4, 0, 47, 0, .null, false),
  (80, .iconst 0, 47, 0, 0, .int 0, false),
  (81, .putfield 183, 48, 6, 25, .null, true),
  (84, .aload_n 0, 49, 0, 0, .null, false),
  (85, .iload_n 1, 50, 1, 0, .null, false),
  (86, .ifCond .eq 10, 51, 54, 0, .null, false),
  (89, .aload_n 0, 52, 0, 0, .null, false),
  (90, .getfield 186, 53, 6, 26, .null, false),
  (93, .goto 4, 0, 55, 0, .null, false),
  (96, .iconst 0, 55, 0, 0, .int 0, false),
  (97, .putfield 186, 56, 6, 26, .null, true),
  (100, .return_, 0, 0, 0, .null, false)]
def q_X6_findsSure : List (List mm_N) := [q_X6_findsSure_0, q_X6_findsSure_1]
def q_X6_sure_0 : List mm_N := [(0, .aload_n 0, 1, 0, 0, .null, false),
  (1, .invokevirtual 145, 2, 158, 1, .null, false),
  (4, .aload_n 0, 3, 0, 0, .null, false),
  (5, .invokevirtual 189, 4, 168, 1, .null, false),
  (8, .aload_n 0, 5, 0, 0, .null, false),
  (9, .aload_n 0, 6, 0, 0, .null, false),
  (10, .getfield 186, 7, 6, 26, .null, false),
  (13, .putfield 69, 8, 6, 7, .null, false),
  (16, .aload_n 0, 9, 0, 0, .null, false),
  (17, .getfield 183, 10, 6, 25, .null, false),
  (20, .ireturn, 0, 0, 0, .null, false)]
def q_X6_sure : List (List mm_N) := [q_X6_sure_0]
def q_X6_odds_0 : List mm_N := [(0, .aload_n 0, 1, 0, 0, .null, false),
  (1, .iload_n 1, 2, 1, 0, .null, false),
  (2, .invokevirtual 135, 3, 143, 2, .null, false),
  (5, .ifCond .ne 5, 4, 6, 0, .null, false),
  (8, .iconst (-1), 5, 0, 0, .int (-1), false),
  (9, .ireturn, 0, 0, 0, .null, false),
  (10, .aload_n 0, 7, 0, 0, .null, false),
  (11, .invokevirtual 145, 8, 158, 1, .null, false),
  (14, .aload_n 0, 9, 0, 0, .null, false),
  (15, .invokevirtual 180, 10, 163, 1, .null, false),
  (18, .istore_n 2, 11, 2, 0, .null, false),
  (19, .iload_n 2, 12, 2, 0, .null, false),
  (20, .ifCond .ne 9, 13, 17, 0, .null, false),
  (23, .aload_n 0, 14, 0, 0, .null, false),
  (24, .iconst 4, 15, 0, 0, .int 4, false),
  (25, .invokevirtual 80, 16, 120, 2, .null, false),
  (28, .ireturn, 0, 0, 0, .null, false),
  (29, .aload_n 0, 18, 0, 0, .null, false),
  (30, .iload_n 1, 19, 1, 0, .null, false),
  (31, .invokevirtual 148, 20, 165, 2, .null, false),
  (34, .istore_n 3, 21, 3, 0, .null, false),
  (35, .iload_n 3, 22, 3, 0, .null, false),
  (36, .istore 4, 23, 4, 0, .null, false),
  (38, .iload_n 2, 24, 2, 0, .null, false),
  (39, .istore 5, 25, 5, 0, .null, false),
  (41, .iload 5, 26, 5, 0, .null, true),
  (43, .ifCond .eq 21, 27, 36, 0, .null, false),
  (46, .iload 4, 28, 4, 0, .null, false),
  (48, .iload 5, 29, 5, 0, .null, false),
  (50, .irem, 30, 0, 0, .null, false),
  (51, .istore 6, 31, 6, 0, .null, false),
  (53, .iload 5, 32, 5, 0, .null, false)]
def q_X6_odds_1 : List mm_N := [(55, .istore 4, 33, 4, 0, .null, false),
  (57, .iload 6, 34, 6, 0, .null, false),
  (59, .istore 5, 35, 5, 0, .null, false),
  (61, .goto (-20), 0, 25, 0, .null, false),
  (64, .aload_n 0, 37, 0, 0, .null, false),
  (65, .iload_n 3, 38, 3, 0, .null, false),
  (66, .iload 4, 39, 4, 0, .null, false),
  (68, .idiv, 40, 0, 0, .null, false),
  (69, .i2l, 41, 0, 0, .null, false),
  (70, .putfield 192, 42, 6, 8, .null, false),
  (73, .aload_n 0, 43, 0, 0, .null, false),
  (74, .iload_n 2, 44, 2, 0, .null, false),
  (75, .iload 4, 45, 4, 0, .null, false),
  (77, .idiv, 46, 0, 0, .null, false),
  (78, .i2l, 47, 0, 0, .null, false),
  (79, .putfield 28, 48, 6, 9, .null, false),
  (82, .iconst 1, 49, 0, 0, .int 1, false),
  (83, .ireturn, 0, 0, 0, .null, false)]
def q_X6_odds : List (List mm_N) := [q_X6_odds_0, q_X6_odds_1]
def q_X6_together_0 : List mm_N := [(0, .aload_n 0, 1, 0, 0, .null, false),
  (1, .iload_n 1, 2, 1, 0, .null, false),
  (2, .invokevirtual 135, 3, 143, 2, .null, false),
  (5, .ifCond .ne 5, 4, 6, 0, .null, false),
  (8, .iconst (-1), 5, 0, 0, .int (-1), false),
  (9, .ireturn, 0, 0, 0, .null, false),
  (10, .aload_n 0, 7, 0, 0, .null, false),
  (11, .invokevirtual 145, 8, 158, 1, .null, false),
  (14, .aload_n 0, 9, 0, 0, .null, false),
  (15, .getfield 157, 10, 6, 19, .null, false),
  (18, .istore_n 2, 11, 2, 0, .null, false),
  (19, .iconst 0, 12, 0, 0, .int 0, false),
  (20, .istore_n 3, 13, 3, 0, .null, false),
  (21, .iconst 0, 14, 0, 0, .int 0, false),
  (22, .istore 4, 15, 4, 0, .null, false),
  (24, .iload 4, 16, 4, 0, .null, true),
  (26, .iconst 1, 17, 0, 0, .int 1, false),
  (27, .aload_n 0, 18, 0, 0, .null, false),
  (28, .getfield 121, 19, 6, 10, .null, false),
  (31, .ishl, 20, 0, 0, .null, false),
  (32, .if_icmp .ge 41, 21, 41, 0, .null, false),
  (35, .aload_n 0, 22, 0, 0, .null, false),
  (36, .iload 4, 23, 4, 0, .null, false),
  (38, .invokevirtual 173, 24, 161, 2, .null, false),
  (41, .ifCond .eq 26, 25, 39, 0, .null, false),
  (44, .iconst 1, 26, 0, 0, .int 1, false),
  (45, .istore_n 3, 27, 3, 0, .null, false),
  (46, .iload_n 2, 28, 2, 0, .null, false),
  (47, .iload 4, 29, 4, 0, .null, false),
  (49, .iload_n 1, 30, 1, 0, .null, false),
  (50, .invokestatic 160, 31, 118, 2, .null, false),
  (53, .ifCond .eq 8, 32, 34, 0, .null, false)]
def q_X6_together_1 : List mm_N := [(56, .iload 4, 33, 4, 0, .null, false),
  (58, .goto 7, 0, 37, 0, .null, false),
  (61, .iload 4, 35, 4, 0, .null, false),
  (63, .iconst (-1), 36, 0, 0, .int (-1), false),
  (64, .ixor, 37, 0, 0, .null, false),
  (65, .iand, 38, 0, 0, .null, true),
  (66, .istore_n 2, 39, 2, 0, .null, false),
  (67, .iinc 4 1, 40, 4, 0, .int 1, true),
  (70, .goto (-46), 0, 15, 0, .null, false),
  (73, .iload_n 3, 42, 3, 0, .null, false),
  (74, .ifCond .eq 7, 43, 45, 0, .null, false),
  (77, .iload_n 2, 44, 2, 0, .null, false),
  (78, .goto 8, 0, 48, 0, .null, false),
  (81, .aload_n 0, 46, 0, 0, .null, false),
  (82, .iconst 4, 47, 0, 0, .int 4, false),
  (83, .invokevirtual 80, 48, 120, 2, .null, false),
  (86, .ireturn, 0, 0, 0, .null, true)]
def q_X6_together : List (List mm_N) := [q_X6_together_0, q_X6_together_1]
def q_X6_upTo_0 : List mm_N := [(0, .aload_n 0, 1, 0, 0, .null, false),
  (1, .invokevirtual 145, 2, 158, 1, .null, false),
  (4, .iconst 0, 3, 0, 0, .int 0, false),
  (5, .istore_n 2, 4, 2, 0, .null, false),
  (6, .iload_n 2, 5, 2, 0, .null, true),
  (7, .aload_n 0, 6, 0, 0, .null, false),
  (8, .getfield 121, 7, 6, 10, .null, false),
  (11, .if_icmp .ge 40, 8, 29, 0, .null, false),
  (14, .aload_n 0, 9, 0, 0, .null, false),
  (15, .dup, 10, 0, 0, .null, false),
  (16, .getfield 157, 11, 6, 19, .null, false),
  (19, .aload_n 0, 12, 0, 0, .null, false),
  (20, .getfield 35, 13, 6, 12, .null, false),
  (23, .iload_n 2, 14, 2, 0, .null, false),
  (24, .iaload, 15, 0, 0, .null, false),
  (25, .iload_n 1, 16, 1, 0, .null, false),
  (26, .if_icmp .le 11, 17, 23, 0, .null, false),
  (29, .iconst 1, 18, 0, 0, .int 1, false),
  (30, .iload_n 2, 19, 2, 0, .null, false),
  (31, .ishl, 20, 0, 0, .null, false),
  (32, .iconst (-1), 21, 0, 0, .int (-1), false),
  (33, .ixor, 22, 0, 0, .null, false),
  (34, .goto 7, 0, 25, 0, .null, false),
  (37, .aload_n 0, 24, 0, 0, .null, false),
  (38, .getfield 157, 25, 6, 19, .null, false),
  (41, .iand, 26, 0, 0, .null, true),
  (42, .putfield 157, 27, 6, 19, .null, false),
  (45, .iinc 2 1, 28, 2, 0, .int 1, false),
  (48, .goto (-42), 0, 4, 0, .null, false),
  (51, .return_, 0, 0, 0, .null, false)]
def q_X6_upTo : List (List mm_N) := [q_X6_upTo_0]
def q_X6_till_0 : List mm_N := [(0, .iload_n 1, 1, 1, 0, .null, false),
  (1, .iconst 0, 2, 0, 0, .int 0, false),
  (2, .bipush 9, 3, 0, 0, .int 9, false),
  (4, .invokestatic 72, 4, 117, 3, .null, false),
  (7, .ifCond .ne 5, 5, 7, 0, .null, false),
  (10, .iconst (-1), 6, 0, 0, .int (-1), false),
  (11, .ireturn, 0, 0, 0, .null, false),
  (12, .aload_n 0, 8, 0, 0, .null, false),
  (13, .iload_n 1, 9, 1, 0, .null, false),
  (14, .invokevirtual 195, 10, 172, 2, .null, false),
  (17, .aload_n 0, 11, 0, 0, .null, false),
  (18, .aload_n 0, 12, 0, 0, .null, false),
  (19, .invokevirtual 176, 13, 164, 1, .null, false),
  (22, .putfield 69, 14, 6, 7, .null, false),
  (25, .aload_n 0, 15, 0, 0, .null, false),
  (26, .invokevirtual 180, 16, 163, 1, .null, false),
  (29, .ireturn, 0, 0, 0, .null, false)]
def q_X6_till : List (List mm_N) := [q_X6_till_0]
def q_X6_flips_0 : List mm_N := [(0, .aload_n 0, 1, 0, 0, .null, false),
  (1, .iload_n 1, 2, 1, 0, .null, false),
  (2, .invokevirtual 135, 3, 143, 2, .null, false),
  (5, .ifCond .ne 5, 4, 6, 0, .null, false),
  (8, .iconst (-1), 5, 0, 0, .int (-1), false),
  (9, .ireturn, 0, 0, 0, .null, false),
  (10, .iconst 0, 7, 0, 0, .int 0, false),
  (11, .istore_n 2, 8, 2, 0, .null, false),
  (12, .iconst 0, 9, 0, 0, .int 0, false),
  (13, .istore_n 3, 10, 3, 0, .null, false),
  (14, .aload_n 0, 11, 0, 0, .null, false),
  (15, .getfield 35, 12, 6, 12, .null, false),
  (18, .iload_n 1, 13, 1, 0, .null, false),
  (19, .iaload, 14, 0, 0, .null, false),
  (20, .istore 4, 15, 4, 0, .null, false),
  (22, .iload 4, 16, 4, 0, .null, true),
  (24, .bipush 10, 17, 0, 0, .int 10, false),
  (26, .if_icmp .ge 87, 18, 60, 0, .null, false),
  (29, .aload_n 0, 19, 0, 0, .null, false),
  (30, .iload 4, 20, 4, 0, .null, false),
  (32, .invokevirtual 195, 21, 172, 2, .null, false),
  (35, .aload_n 0, 22, 0, 0, .null, false),
  (36, .invokevirtual 189, 23, 168, 1, .null, false),
  (39, .aload_n 0, 24, 0, 0, .null, false),
  (40, .getfield 183, 25, 6, 25, .null, false),
  (43, .iload_n 1, 26, 1, 0, .null, false),
  (44, .invokestatic 160, 27, 118, 2, .null, false),
  (47, .ifCond .eq 7, 28, 30, 0, .null, false),
  (50, .iconst 1, 29, 0, 0, .int 1, false),
  (51, .goto 19, 0, 38, 0, .null, false),
  (54, .aload_n 0, 31, 0, 0, .null, false),
  (55, .getfield 186, 32, 6, 26, .null, false)]
def q_X6_flips_1 : List mm_N := [(58, .iload_n 1, 33, 1, 0, .null, false),
  (59, .invokestatic 160, 34, 118, 2, .null, false),
  (62, .ifCond .eq 7, 35, 37, 0, .null, false),
  (65, .iconst (-1), 36, 0, 0, .int (-1), false),
  (66, .goto 4, 0, 38, 0, .null, false),
  (69, .iconst 0, 38, 0, 0, .int 0, false),
  (70, .istore 5, 39, 5, 0, .null, true),
  (72, .iload_n 2, 40, 2, 0, .null, false),
  (73, .iload 5, 41, 5, 0, .null, false),
  (75, .ifCond .eq 17, 42, 49, 0, .null, false),
  (78, .iload_n 3, 43, 3, 0, .null, false),
  (79, .ifCond .eq 13, 44, 49, 0, .null, false),
  (82, .iload 5, 45, 5, 0, .null, false),
  (84, .iload_n 3, 46, 3, 0, .null, false),
  (85, .if_icmp .eq 7, 47, 49, 0, .null, false),
  (88, .iconst 1, 48, 0, 0, .int 1, false),
  (89, .goto 4, 0, 50, 0, .null, false),
  (92, .iconst 0, 50, 0, 0, .int 0, true),
  (93, .iadd, 51, 0, 0, .null, true),
  (94, .istore_n 2, 52, 2, 0, .null, false),
  (95, .iload 5, 53, 5, 0, .null, false),
  (97, .ifCond .ne 7, 54, 56, 0, .null, false),
  (100, .iload_n 3, 55, 3, 0, .null, false),
  (101, .goto 5, 0, 57, 0, .null, false),
  (104, .iload 5, 57, 5, 0, .null, false),
  (106, .istore_n 3, 58, 3, 0, .null, true),
  (107, .iinc 4 1, 59, 4, 0, .int 1, false),
  (110, .goto (-88), 0, 15, 0, .null, false),
  (113, .iload_n 2, 61, 2, 0, .null, false),
  (114, .ireturn, 0, 0, 0, .null, false)]
def q_X6_flips : List (List mm_N) := [q_X6_flips_0, q_X6_flips_1]
def q_X6_jam_0 : List mm_N := [(0, .iconst 0, 1, 0, 0, .int 0, false),
  (1, .istore_n 1, 2, 1, 0, .null, false),
  (2, .iload_n 1, 3, 1, 0, .null, true),
  (3, .bipush 10, 4, 0, 0, .int 10, false),
  (5, .if_icmp .ge 25, 5, 16, 0, .null, false),
  (8, .aload_n 0, 6, 0, 0, .null, false),
  (9, .iload_n 1, 7, 1, 0, .null, false),
  (10, .invokevirtual 195, 8, 172, 2, .null, false),
  (13, .aload_n 0, 9, 0, 0, .null, false),
  (14, .invokevirtual 176, 10, 164, 1, .null, false),
  (17, .bipush (-9), 11, 0, 0, .int (-9), false),
  (19, .if_icmp .ne 5, 12, 14, 0, .null, false),
  (22, .iload_n 1, 13, 1, 0, .null, false),
  (23, .ireturn, 0, 0, 0, .null, false),
  (24, .iinc 1 1, 15, 1, 0, .int 1, false),
  (27, .goto (-25), 0, 2, 0, .null, false),
  (30, .bipush (-9), 17, 0, 0, .int (-9), false),
  (32, .ireturn, 0, 0, 0, .null, false)]
def q_X6_jam : List (List mm_N) := [q_X6_jam_0]
def q_X6_isReached_0 : List mm_N := [(0, .iload_n 2, 1, 2, 0, .null, false),
  (1, .iconst 2, 2, 0, 0, .int 2, false),
  (2, .if_icmp .ne 17, 3, 11, 0, .null, false),
  (5, .aload_n 0, 4, 0, 0, .null, false),
  (6, .invokevirtual 180, 5, 163, 1, .null, false),
  (9, .iconst 1, 6, 0, 0, .int 1, false),
  (10, .if_icmp .ne 7, 7, 9, 0, .null, false),
  (13, .iconst 1, 8, 0, 0, .int 1, false),
  (14, .goto 4, 0, 10, 0, .null, false),
  (17, .iconst 0, 10, 0, 0, .int 0, false),
  (18, .ireturn, 0, 0, 0, .null, true),
  (19, .aload_n 0, 12, 0, 0, .null, false),
  (20, .invokevirtual 189, 13, 168, 1, .null, false),
  (23, .iload_n 2, 14, 2, 0, .null, false),
  (24, .ifCond .ne 10, 15, 18, 0, .null, false),
  (27, .aload_n 0, 16, 0, 0, .null, false),
  (28, .getfield 186, 17, 6, 26, .null, false),
  (31, .goto 7, 0, 20, 0, .null, false),
  (34, .aload_n 0, 19, 0, 0, .null, false),
  (35, .getfield 183, 20, 6, 25, .null, false),
  (38, .iload_n 1, 21, 1, 0, .null, true),
  (39, .invokestatic 160, 22, 118, 2, .null, false),
  (42, .ireturn, 0, 0, 0, .null, false)]
def q_X6_isReached : List (List mm_N) := [q_X6_isReached_0]
def q_X6_power_0 : List mm_N := [(0, .iconst 1, 1, 0, 0, .int 1, false),
  (1, .istore_n 2, 2, 2, 0, .null, false),
  (2, .iconst 0, 3, 0, 0, .int 0, false),
  (3, .istore_n 3, 4, 3, 0, .null, false),
  (4, .iload_n 3, 5, 3, 0, .null, true),
  (5, .iload_n 1, 6, 1, 0, .null, false),
  (6, .if_icmp .ge 13, 7, 13, 0, .null, false),
  (9, .iload_n 2, 8, 2, 0, .null, false),
  (10, .iload_n 0, 9, 0, 0, .null, false),
  (11, .imul, 10, 0, 0, .null, false),
  (12, .istore_n 2, 11, 2, 0, .null, false),
  (13, .iinc 3 1, 12, 3, 0, .int 1, false),
  (16, .goto (-12), 0, 4, 0, .null, false),
  (19, .iload_n 2, 14, 2, 0, .null, false),
  (20, .ireturn, 0, 0, 0, .null, false)]
def q_X6_power : List (List mm_N) := [q_X6_power_0]
def q_X6_strikes_0 : List mm_N := [(0, .aload_n 0, 1, 0, 0, .null, false),
  (1, .invokevirtual 145, 2, 158, 1, .null, false),
  (4, .iload_n 1, 3, 1, 0, .null, false),
  (5, .istore_n 3, 4, 3, 0, .null, false),
  (6, .aload_n 0, 5, 0, 0, .null, false),
  (7, .getfield 121, 6, 6, 10, .null, false),
  (10, .istore 4, 7, 4, 0, .null, false),
  (12, .iconst 1, 8, 0, 0, .int 1, false),
  (13, .istore 5, 9, 5, 0, .null, false),
  (15, .iconst 0, 10, 0, 0, .int 0, false),
  (16, .istore 6, 11, 6, 0, .null, false),
  (18, .iload 6, 12, 6, 0, .null, true),
  (20, .iload_n 2, 13, 2, 0, .null, false),
  (21, .if_icmp .ge 58, 14, 45, 0, .null, false),
  (24, .iload_n 3, 15, 3, 0, .null, false),
  (25, .aload_n 0, 16, 0, 0, .null, false),
  (26, .getfield 121, 17, 6, 10, .null, false),
  (29, .irem, 18, 0, 0, .null, false),
  (30, .istore 7, 19, 7, 0, .null, false),
  (32, .iload 5, 20, 5, 0, .null, false),
  (34, .ifCond .eq 14, 21, 26, 0, .null, false),
  (37, .iload 7, 22, 7, 0, .null, false),
  (39, .iload 4, 23, 4, 0, .null, false),
  (41, .if_icmp .gt 7, 24, 26, 0, .null, false),
  (44, .iconst 1, 25, 0, 0, .int 1, false),
  (45, .goto 4, 0, 27, 0, .null, false),
  (48, .iconst 0, 27, 0, 0, .int 0, true),
  (49, .istore 5, 28, 5, 0, .null, true),
  (51, .aload_n 0, 29, 0, 0, .null, false),
  (52, .getfield 56, 30, 6, 20, .null, false),
  (55, .iload 7, 31, 7, 0, .null, false),
  (57, .dup2, 32, 0, 0, .null, false)]
def q_X6_strikes_1 : List mm_N := [(58, .iaload, 33, 0, 0, .null, false),
  (59, .iconst 1, 34, 0, 0, .int 1, false),
  (60, .iadd, 35, 0, 0, .null, false),
  (61, .iastore, 36, 0, 0, .null, false),
  (62, .iload 7, 37, 7, 0, .null, false),
  (64, .istore 4, 38, 4, 0, .null, false),
  (66, .iload_n 3, 39, 3, 0, .null, false),
  (67, .aload_n 0, 40, 0, 0, .null, false),
  (68, .getfield 121, 41, 6, 10, .null, false),
  (71, .idiv, 42, 0, 0, .null, false),
  (72, .istore_n 3, 43, 3, 0, .null, false),
  (73, .iinc 6 1, 44, 6, 0, .int 1, false),
  (76, .goto (-58), 0, 11, 0, .null, false),
  (79, .iload 5, 46, 5, 0, .null, false),
  (81, .ireturn, 0, 0, 0, .null, false)]
def q_X6_strikes : List (List mm_N) := [q_X6_strikes_0, q_X6_strikes_1]
def q_X6_files_0 : List mm_N := [(0, .iconst 0, 1, 0, 0, .int 0, false),
  (1, .istore 4, 2, 4, 0, .null, false),
  (3, .iload 4, 3, 4, 0, .null, true),
  (5, .iconst 4, 4, 0, 0, .int 4, false),
  (6, .if_icmp .ge 112, 5, 61, 0, .null, false),
  (9, .iconst 0, 6, 0, 0, .int 0, false),
  (10, .istore 5, 7, 5, 0, .null, false),
  (12, .iload 5, 8, 5, 0, .null, true),
  (14, .aload_n 0, 9, 0, 0, .null, false),
  (15, .getfield 121, 10, 6, 10, .null, false),
  (18, .iload 4, 11, 4, 0, .null, false),
  (20, .invokestatic 198, 12, 177, 2, .null, false),
  (23, .if_icmp .ge 89, 13, 59, 0, .null, false),
  (26, .aload_n 0, 14, 0, 0, .null, false),
  (27, .iload 5, 15, 5, 0, .null, false),
  (29, .iload 4, 16, 4, 0, .null, false),
  (31, .invokevirtual 201, 17, 178, 3, .null, false),
  (34, .ifCond .eq 72, 18, 57, 0, .null, false),
  (37, .aload_n 0, 19, 0, 0, .null, false),
  (38, .iload_n 1, 20, 1, 0, .null, false),
  (39, .iload_n 3, 21, 3, 0, .null, false),
  (40, .invokevirtual 204, 22, 176, 3, .null, false),
  (43, .ifCond .eq 63, 23, 57, 0, .null, false),
  (46, .aload_n 0, 24, 0, 0, .null, false),
  (47, .iload_n 2, 25, 2, 0, .null, false),
  (48, .iload 4, 26, 4, 0, .null, false),
  (50, .invokevirtual 207, 27, 124, 3, .null, false),
  (53, .pop, 28, 0, 0, .null, false),
  (54, .iload 5, 29, 5, 0, .null, false),
  (56, .istore 6, 30, 6, 0, .null, false),
  (58, .iload 4, 31, 4, 0, .null, false),
  (60, .iconst 1, 32, 0, 0, .int 1, false)]
def q_X6_files_1 : List mm_N := [(61, .isub, 33, 0, 0, .null, false),
  (62, .istore 7, 34, 7, 0, .null, false),
  (64, .iload 7, 35, 7, 0, .null, true),
  (66, .ifCond .lt 37, 36, 55, 0, .null, false),
  (69, .aload_n 0, 37, 0, 0, .null, false),
  (70, .getfield 13, 38, 6, 1, .null, false),
  (73, .bipush 40, 39, 0, 0, .int 40, false),
  (75, .iload_n 2, 40, 2, 0, .null, false),
  (76, .imul, 41, 0, 0, .null, false),
  (77, .iload 7, 42, 7, 0, .null, false),
  (79, .iadd, 43, 0, 0, .null, false),
  (80, .iload 6, 44, 6, 0, .null, false),
  (82, .aload_n 0, 45, 0, 0, .null, false),
  (83, .getfield 121, 46, 6, 10, .null, false),
  (86, .irem, 47, 0, 0, .null, false),
  (87, .iastore, 48, 0, 0, .null, false),
  (88, .iload 6, 49, 6, 0, .null, false),
  (90, .aload_n 0, 50, 0, 0, .null, false),
  (91, .getfield 121, 51, 6, 10, .null, false),
  (94, .idiv, 52, 0, 0, .null, false),
  (95, .istore 6, 53, 6, 0, .null, false),
  (97, .iinc 7 (-1), 54, 7, 0, .int (-1), false),
  (100, .goto (-36), 0, 34, 0, .null, false),
  (103, .iload 4, 56, 4, 0, .null, false),
  (105, .ireturn, 0, 0, 0, .null, false),
  (106, .iinc 5 1, 58, 5, 0, .int 1, true),
  (109, .goto (-97), 0, 7, 0, .null, false),
  (112, .iinc 4 1, 60, 4, 0, .int 1, false),
  (115, .goto (-112), 0, 2, 0, .null, false),
  (118, .bipush (-9), 62, 0, 0, .int (-9), false),
  (120, .ireturn, 0, 0, 0, .null, false)]
def q_X6_files : List (List mm_N) := [q_X6_files_0, q_X6_files_1]
def q_X6_fell_0 : List mm_N := [(0, .aload_n 0, 1, 0, 0, .null, false),
  (1, .iload_n 1, 2, 1, 0, .null, false),
  (2, .invokevirtual 135, 3, 143, 2, .null, false),
  (5, .ifCond .eq 20, 4, 13, 0, .null, false),
  (8, .iload_n 2, 5, 2, 0, .null, false),
  (9, .invokestatic 76, 6, 122, 1, .null, false),
  (12, .ifCond .eq 13, 7, 13, 0, .null, false),
  (15, .aload_n 0, 8, 0, 0, .null, false),
  (16, .iload_n 1, 9, 1, 0, .null, false),
  (17, .iload_n 2, 10, 2, 0, .null, false),
  (18, .iconst 0, 11, 0, 0, .int 0, false),
  (19, .invokevirtual 210, 12, 179, 4, .null, false),
  (22, .goto 4, 0, 14, 0, .null, false),
  (25, .iconst (-1), 14, 0, 0, .int (-1), true),
  (26, .ireturn, 0, 0, 0, .null, true)]
def q_X6_fell : List (List mm_N) := [q_X6_fell_0]
def q_X6_guard_0 : List mm_N := [(0, .aload_n 0, 1, 0, 0, .null, false),
  (1, .iload_n 1, 2, 1, 0, .null, false),
  (2, .invokevirtual 135, 3, 143, 2, .null, false),
  (5, .ifCond .eq 20, 4, 13, 0, .null, false),
  (8, .iload_n 2, 5, 2, 0, .null, false),
  (9, .invokestatic 76, 6, 122, 1, .null, false),
  (12, .ifCond .eq 13, 7, 13, 0, .null, false),
  (15, .aload_n 0, 8, 0, 0, .null, false),
  (16, .iload_n 1, 9, 1, 0, .null, false),
  (17, .iload_n 2, 10, 2, 0, .null, false),
  (18, .iconst 1, 11, 0, 0, .int 1, false),
  (19, .invokevirtual 210, 12, 179, 4, .null, false),
  (22, .goto 4, 0, 14, 0, .null, false),
  (25, .iconst (-1), 14, 0, 0, .int (-1), true),
  (26, .ireturn, 0, 0, 0, .null, true)]
def q_X6_guard : List (List mm_N) := [q_X6_guard_0]
def q_X6_settle_0 : List mm_N := [(0, .iload_n 1, 1, 1, 0, .null, false),
  (1, .invokestatic 76, 2, 122, 1, .null, false),
  (4, .ifCond .eq 14, 3, 9, 0, .null, false),
  (7, .aload_n 0, 4, 0, 0, .null, false),
  (8, .bipush (-9), 5, 0, 0, .int (-9), false),
  (10, .iload_n 1, 6, 1, 0, .null, false),
  (11, .iconst 2, 7, 0, 0, .int 2, false),
  (12, .invokevirtual 210, 8, 179, 4, .null, false),
  (15, .goto 4, 0, 10, 0, .null, false),
  (18, .iconst (-1), 10, 0, 0, .int (-1), false),
  (19, .ireturn, 0, 0, 0, .null, true)]
def q_X6_settle : List (List mm_N) := [q_X6_settle_0]
def q_X6_otherwise_0 : List mm_N := [(0, .aload_n 0, 1, 0, 0, .null, false),
  (1, .invokevirtual 145, 2, 158, 1, .null, false),
  (4, .aload_n 0, 3, 0, 0, .null, false),
  (5, .invokevirtual 189, 4, 168, 1, .null, false),
  (8, .aload_n 0, 5, 0, 0, .null, false),
  (9, .getfield 183, 6, 6, 25, .null, false),
  (12, .istore_n 2, 7, 2, 0, .null, false),
  (13, .aload_n 0, 8, 0, 0, .null, false),
  (14, .getfield 186, 9, 6, 26, .null, false),
  (17, .istore_n 3, 10, 3, 0, .null, false),
  (18, .aload_n 0, 11, 0, 0, .null, false),
  (19, .dup, 12, 0, 0, .null, false),
  (20, .getfield 157, 13, 6, 19, .null, false),
  (23, .iload_n 1, 14, 1, 0, .null, false),
  (24, .iconst (-1), 15, 0, 0, .int (-1), false),
  (25, .ixor, 16, 0, 0, .null, false),
  (26, .iand, 17, 0, 0, .null, false),
  (27, .putfield 157, 18, 6, 19, .null, false),
  (30, .aload_n 0, 19, 0, 0, .null, false),
  (31, .invokevirtual 189, 20, 168, 1, .null, false),
  (34, .iload_n 2, 21, 2, 0, .null, false),
  (35, .aload_n 0, 22, 0, 0, .null, false),
  (36, .getfield 183, 23, 6, 25, .null, false),
  (39, .ixor, 24, 0, 0, .null, false),
  (40, .iload_n 3, 25, 3, 0, .null, false),
  (41, .aload_n 0, 26, 0, 0, .null, false),
  (42, .getfield 186, 27, 6, 26, .null, false),
  (45, .ixor, 28, 0, 0, .null, false),
  (46, .ior, 29, 0, 0, .null, false),
  (47, .aload_n 0, 30, 0, 0, .null, false),
  (48, .getfield 157, 31, 6, 19, .null, false),
  (51, .iand, 32, 0, 0, .null, false)]
def q_X6_otherwise_1 : List mm_N := [(52, .invokestatic 213, 33, 119, 1, .null, false),
  (55, .ireturn, 0, 0, 0, .null, false)]
def q_X6_otherwise : List (List mm_N) := [q_X6_otherwise_0, q_X6_otherwise_1]
def q_X6_matter_0 : List mm_N := [(0, .aload_n 0, 1, 0, 0, .null, false),
  (1, .iload_n 1, 2, 1, 0, .null, false),
  (2, .invokevirtual 135, 3, 143, 2, .null, false),
  (5, .ifCond .eq 13, 4, 10, 0, .null, false),
  (8, .aload_n 0, 5, 0, 0, .null, false),
  (9, .iconst 1, 6, 0, 0, .int 1, false),
  (10, .iload_n 1, 7, 1, 0, .null, false),
  (11, .ishl, 8, 0, 0, .null, false),
  (12, .invokevirtual 216, 9, 183, 2, .null, false),
  (15, .goto 4, 0, 11, 0, .null, false),
  (18, .iconst (-1), 11, 0, 0, .int (-1), false),
  (19, .ireturn, 0, 0, 0, .null, true)]
def q_X6_matter : List (List mm_N) := [q_X6_matter_0]
def q_X6_judge_0 : List mm_N := [(0, .aload_n 0, 1, 0, 0, .null, false),
  (1, .getfield 121, 2, 6, 10, .null, false),
  (4, .ifCond .ne 6, 3, 5, 0, .null, false),
  (7, .bipush (-4), 4, 0, 0, .int (-4), false),
  (9, .ireturn, 0, 0, 0, .null, false),
  (10, .bipush (-9), 6, 0, 0, .int (-9), false),
  (12, .istore_n 1, 7, 1, 0, .null, false),
  (13, .bipush (-9), 8, 0, 0, .int (-9), false),
  (15, .istore_n 2, 9, 2, 0, .null, false),
  (16, .iconst 0, 10, 0, 0, .int 0, false),
  (17, .istore_n 3, 11, 3, 0, .null, false),
  (18, .iload_n 3, 12, 3, 0, .null, true),
  (19, .bipush 10, 13, 0, 0, .int 10, false),
  (21, .if_icmp .ge 97, 14, 62, 0, .null, false),
  (24, .iconst 0, 15, 0, 0, .int 0, false),
  (25, .istore 4, 16, 4, 0, .null, false),
  (27, .iconst 0, 17, 0, 0, .int 0, false),
  (28, .istore 5, 18, 5, 0, .null, false),
  (30, .iload 5, 19, 5, 0, .null, true),
  (32, .aload_n 0, 20, 0, 0, .null, false),
  (33, .getfield 121, 21, 6, 10, .null, false),
  (36, .if_icmp .ge 33, 22, 38, 0, .null, false),
  (39, .iload 4, 23, 4, 0, .null, false),
  (41, .aload_n 0, 24, 0, 0, .null, false),
  (42, .getfield 35, 25, 6, 12, .null, false),
  (45, .iload 5, 26, 5, 0, .null, false),
  (47, .iaload, 27, 0, 0, .null, false),
  (48, .iload_n 3, 28, 3, 0, .null, false),
  (49, .if_icmp .ne 10, 29, 33, 0, .null, false),
  (52, .iconst 1, 30, 0, 0, .int 1, false),
  (53, .iload 5, 31, 5, 0, .null, false),
  (55, .ishl, 32, 0, 0, .null, false)]
def q_X6_judge_1 : List mm_N := [(56, .goto 4, 0, 34, 0, .null, false),
  (59, .iconst 0, 34, 0, 0, .int 0, false),
  (60, .ior, 35, 0, 0, .null, true),
  (61, .istore 4, 36, 4, 0, .null, false),
  (63, .iinc 5 1, 37, 5, 0, .int 1, false),
  (66, .goto (-36), 0, 18, 0, .null, false),
  (69, .iload 4, 39, 4, 0, .null, false),
  (71, .ifCond .ne 8, 40, 42, 0, .null, false),
  (74, .bipush (-9), 41, 0, 0, .int (-9), false),
  (76, .goto 9, 0, 45, 0, .null, false),
  (79, .aload_n 0, 43, 0, 0, .null, false),
  (80, .iload 4, 44, 4, 0, .null, false),
  (82, .invokevirtual 216, 45, 183, 2, .null, false),
  (85, .istore 5, 46, 5, 0, .null, true),
  (87, .iload 5, 47, 5, 0, .null, false),
  (89, .iload_n 2, 48, 2, 0, .null, false),
  (90, .if_icmp .le 7, 49, 51, 0, .null, false),
  (93, .iload_n 3, 50, 3, 0, .null, false),
  (94, .goto 4, 0, 52, 0, .null, false),
  (97, .iload_n 1, 52, 1, 0, .null, false),
  (98, .istore_n 1, 53, 1, 0, .null, true),
  (99, .iload 5, 54, 5, 0, .null, false),
  (101, .iload_n 2, 55, 2, 0, .null, false),
  (102, .if_icmp .le 8, 56, 58, 0, .null, false),
  (105, .iload 5, 57, 5, 0, .null, false),
  (107, .goto 4, 0, 59, 0, .null, false),
  (110, .iload_n 2, 59, 2, 0, .null, false),
  (111, .istore_n 2, 60, 2, 0, .null, true),
  (112, .iinc 3 1, 61, 3, 0, .int 1, false),
  (115, .goto (-97), 0, 11, 0, .null, false),
  (118, .aload_n 0, 63, 0, 0, .null, false),
  (119, .iload_n 2, 64, 2, 0, .null, false)]
def q_X6_judge_2 : List mm_N := [(120, .putfield 69, 65, 6, 7, .null, false),
  (123, .iload_n 1, 66, 1, 0, .null, false),
  (124, .ireturn, 0, 0, 0, .null, false)]
def q_X6_judge : List (List mm_N) := [q_X6_judge_0, q_X6_judge_1, q_X6_judge_2]
def q_X6_likeness_0 : List mm_N := [(0, .iconst 2, 1, 0, 0, .int 2, false),
  (1, .iload_n 0, 2, 0, 0, .null, false),
  (2, .iload_n 1, 3, 1, 0, .null, false),
  (3, .iand, 4, 0, 0, .null, false),
  (4, .invokestatic 213, 5, 119, 1, .null, false),
  (7, .imul, 6, 0, 0, .null, false),
  (8, .iload_n 0, 7, 0, 0, .null, false),
  (9, .iload_n 1, 8, 1, 0, .null, false),
  (10, .ixor, 9, 0, 0, .null, false),
  (11, .invokestatic 213, 10, 119, 1, .null, false),
  (14, .isub, 11, 0, 0, .null, false),
  (15, .ireturn, 0, 0, 0, .null, false)]
def q_X6_likeness : List (List mm_N) := [q_X6_likeness_0]
def q_X6_like_0 : List mm_N := [(0, .aload_n 0, 1, 0, 0, .null, false),
  (1, .iload_n 1, 2, 1, 0, .null, false),
  (2, .invokevirtual 135, 3, 143, 2, .null, false),
  (5, .ifCond .eq 30, 4, 18, 0, .null, false),
  (8, .iload_n 2, 5, 2, 0, .null, false),
  (9, .iconst 0, 6, 0, 0, .int 0, false),
  (10, .bipush 31, 7, 0, 0, .int 31, false),
  (12, .invokestatic 72, 8, 117, 3, .null, false),
  (15, .ifCond .eq 20, 9, 18, 0, .null, false),
  (18, .aload_n 0, 10, 0, 0, .null, false),
  (19, .aload_n 0, 11, 0, 0, .null, false),
  (20, .getfield 47, 12, 6, 16, .null, false),
  (23, .iload_n 1, 13, 1, 0, .null, false),
  (24, .iaload, 14, 0, 0, .null, false),
  (25, .iload_n 2, 15, 2, 0, .null, false),
  (26, .invokestatic 219, 16, 186, 2, .null, false),
  (29, .invokevirtual 84, 17, 121, 2, .null, false),
  (32, .goto 4, 0, 19, 0, .null, false),
  (35, .iconst (-1), 19, 0, 0, .int (-1), true),
  (36, .ireturn, 0, 0, 0, .null, true)]
def q_X6_like : List (List mm_N) := [q_X6_like_0]
def q_X6_verdictBy_0 : List mm_N := [(0, .bipush (-9), 1, 0, 0, .int (-9), false),
  (2, .istore 4, 2, 4, 0, .null, false),
  (4, .iconst 0, 3, 0, 0, .int 0, false),
  (5, .istore 5, 4, 5, 0, .null, false),
  (7, .iload 5, 5, 5, 0, .null, true),
  (9, .aload_n 0, 6, 0, 0, .null, false),
  (10, .getfield 121, 7, 6, 10, .null, false),
  (13, .if_icmp .ge 122, 8, 69, 0, .null, false),
  (16, .iload_n 2, 9, 2, 0, .null, false),
  (17, .iload 5, 10, 5, 0, .null, false),
  (19, .invokestatic 160, 11, 118, 2, .null, false),
  (22, .ifCond .eq 107, 12, 67, 0, .null, false),
  (25, .aload_n 0, 13, 0, 0, .null, false),
  (26, .getfield 47, 14, 6, 16, .null, false),
  (29, .iload 5, 15, 5, 0, .null, false),
  (31, .iaload, 16, 0, 0, .null, false),
  (32, .iload_n 3, 17, 3, 0, .null, false),
  (33, .iand, 18, 0, 0, .null, false),
  (34, .iload_n 1, 19, 1, 0, .null, false),
  (35, .iload_n 3, 20, 3, 0, .null, false),
  (36, .iand, 21, 0, 0, .null, false),
  (37, .invokestatic 219, 22, 186, 2, .null, false),
  (40, .istore 6, 23, 6, 0, .null, false),
  (42, .iload 4, 24, 4, 0, .null, false),
  (44, .bipush (-9), 25, 0, 0, .int (-9), false),
  (46, .if_icmp .ne 7, 26, 28, 0, .null, false),
  (49, .iconst 0, 27, 0, 0, .int 0, false),
  (50, .goto 18, 0, 38, 0, .null, false),
  (53, .aload_n 0, 29, 0, 0, .null, false),
  (54, .getfield 47, 30, 6, 16, .null, false),
  (57, .iload 4, 31, 4, 0, .null, false),
  (59, .iaload, 32, 0, 0, .null, false)]
def q_X6_verdictBy_1 : List mm_N := [(60, .iload_n 3, 33, 3, 0, .null, false),
  (61, .iand, 34, 0, 0, .null, false),
  (62, .iload_n 1, 35, 1, 0, .null, false),
  (63, .iload_n 3, 36, 3, 0, .null, false),
  (64, .iand, 37, 0, 0, .null, false),
  (65, .invokestatic 219, 38, 186, 2, .null, false),
  (68, .istore 7, 39, 7, 0, .null, true),
  (70, .iload 4, 40, 4, 0, .null, false),
  (72, .bipush (-9), 41, 0, 0, .int (-9), false),
  (74, .if_icmp .eq 34, 42, 57, 0, .null, false),
  (77, .iload 6, 43, 6, 0, .null, false),
  (79, .iload 7, 44, 7, 0, .null, false),
  (81, .if_icmp .gt 27, 45, 57, 0, .null, false),
  (84, .iload 6, 46, 6, 0, .null, false),
  (86, .iload 7, 47, 7, 0, .null, false),
  (88, .if_icmp .ne 24, 48, 59, 0, .null, false),
  (91, .aload_n 0, 49, 0, 0, .null, false),
  (92, .getfield 35, 50, 6, 12, .null, false),
  (95, .iload 5, 51, 5, 0, .null, false),
  (97, .iaload, 52, 0, 0, .null, false),
  (98, .aload_n 0, 53, 0, 0, .null, false),
  (99, .getfield 35, 54, 6, 12, .null, false),
  (102, .iload 4, 55, 4, 0, .null, false),
  (104, .iaload, 56, 0, 0, .null, false),
  (105, .if_icmp .lt 7, 57, 59, 0, .null, false),
  (108, .iconst 1, 58, 0, 0, .int 1, true),
  (109, .goto 4, 0, 60, 0, .null, false),
  (112, .iconst 0, 60, 0, 0, .int 0, true),
  (113, .istore 8, 61, 8, 0, .null, true),
  (115, .iload 8, 62, 8, 0, .null, false),
  (117, .ifCond .eq 8, 63, 65, 0, .null, false),
  (120, .iload 5, 64, 5, 0, .null, false)]
def q_X6_verdictBy_2 : List mm_N := [(122, .goto 5, 0, 66, 0, .null, false),
  (125, .iload 4, 66, 4, 0, .null, false),
  (127, .istore 4, 67, 4, 0, .null, true),
  (129, .iinc 5 1, 68, 5, 0, .int 1, true),
  (132, .goto (-125), 0, 4, 0, .null, false),
  (135, .iload 4, 70, 4, 0, .null, false),
  (137, .bipush (-9), 71, 0, 0, .int (-9), false),
  (139, .if_icmp .ne 7, 72, 74, 0, .null, false),
  (142, .iconst 0, 73, 0, 0, .int 0, false),
  (143, .goto 10, 0, 78, 0, .null, false),
  (146, .aload_n 0, 75, 0, 0, .null, false),
  (147, .getfield 38, 76, 6, 13, .null, false),
  (150, .iload 4, 77, 4, 0, .null, false),
  (152, .iaload, 78, 0, 0, .null, false),
  (153, .ireturn, 0, 0, 0, .null, true)]
def q_X6_verdictBy : List (List mm_N) := [q_X6_verdictBy_0, q_X6_verdictBy_1, q_X6_verdictBy_2]
def q_X6_verdict_0 : List mm_N := [(0, .iload_n 1, 1, 1, 0, .null, false),
  (1, .iconst 0, 2, 0, 0, .int 0, false),
  (2, .bipush 31, 3, 0, 0, .int 31, false),
  (4, .invokestatic 72, 4, 117, 3, .null, false),
  (7, .ifCond .eq 22, 5, 15, 0, .null, false),
  (10, .aload_n 0, 6, 0, 0, .null, false),
  (11, .iload_n 2, 7, 2, 0, .null, false),
  (12, .invokevirtual 170, 8, 144, 2, .null, false),
  (15, .ifCond .eq 14, 9, 15, 0, .null, false),
  (18, .aload_n 0, 10, 0, 0, .null, false),
  (19, .iload_n 1, 11, 1, 0, .null, false),
  (20, .iload_n 2, 12, 2, 0, .null, false),
  (21, .bipush 31, 13, 0, 0, .int 31, false),
  (23, .invokevirtual 222, 14, 188, 4, .null, false),
  (26, .goto 4, 0, 16, 0, .null, false),
  (29, .iconst (-1), 16, 0, 0, .int (-1), true),
  (30, .ireturn, 0, 0, 0, .null, true)]
def q_X6_verdict : List (List mm_N) := [q_X6_verdict_0]
def q_X6_surely_0 : List mm_N := [(0, .iload_n 1, 1, 1, 0, .null, false),
  (1, .iconst 0, 2, 0, 0, .int 0, false),
  (2, .bipush 31, 3, 0, 0, .int 31, false),
  (4, .invokestatic 72, 4, 117, 3, .null, false),
  (7, .ifCond .ne 5, 5, 7, 0, .null, false),
  (10, .iconst (-1), 6, 0, 0, .int (-1), false),
  (11, .ireturn, 0, 0, 0, .null, false),
  (12, .aload_n 0, 8, 0, 0, .null, false),
  (13, .invokevirtual 145, 9, 158, 1, .null, false),
  (16, .iconst 0, 10, 0, 0, .int 0, false),
  (17, .istore_n 2, 11, 2, 0, .null, false),
  (18, .iconst 0, 12, 0, 0, .int 0, false),
  (19, .istore_n 3, 13, 3, 0, .null, false),
  (20, .iconst 0, 14, 0, 0, .int 0, false),
  (21, .istore 4, 15, 4, 0, .null, false),
  (23, .iload 4, 16, 4, 0, .null, true),
  (25, .iconst 1, 17, 0, 0, .int 1, false),
  (26, .aload_n 0, 18, 0, 0, .null, false),
  (27, .getfield 121, 19, 6, 10, .null, false),
  (30, .ishl, 20, 0, 0, .null, false),
  (31, .if_icmp .ge 33, 21, 36, 0, .null, false),
  (34, .aload_n 0, 22, 0, 0, .null, false),
  (35, .iload 4, 23, 4, 0, .null, false),
  (37, .invokevirtual 173, 24, 161, 2, .null, false),
  (40, .ifCond .eq 18, 25, 34, 0, .null, false),
  (43, .iinc 2 1, 26, 2, 0, .int 1, false),
  (46, .iload_n 3, 27, 3, 0, .null, false),
  (47, .aload_n 0, 28, 0, 0, .null, false),
  (48, .iload_n 1, 29, 1, 0, .null, false),
  (49, .iload 4, 30, 4, 0, .null, false),
  (51, .bipush 31, 31, 0, 0, .int 31, false),
  (53, .invokevirtual 222, 32, 188, 4, .null, false)]
def q_X6_surely_1 : List mm_N := [(56, .iadd, 33, 0, 0, .null, false),
  (57, .istore_n 3, 34, 3, 0, .null, false),
  (58, .iinc 4 1, 35, 4, 0, .int 1, true),
  (61, .goto (-38), 0, 15, 0, .null, false),
  (64, .iload_n 2, 37, 2, 0, .null, false),
  (65, .ifCond .ne 9, 38, 42, 0, .null, false),
  (68, .aload_n 0, 39, 0, 0, .null, false),
  (69, .iconst 4, 40, 0, 0, .int 4, false),
  (70, .invokevirtual 80, 41, 120, 2, .null, false),
  (73, .ireturn, 0, 0, 0, .null, false),
  (74, .aload_n 0, 43, 0, 0, .null, false),
  (75, .iload_n 3, 44, 3, 0, .null, false),
  (76, .putfield 69, 45, 6, 7, .null, false),
  (79, .iload_n 3, 46, 3, 0, .null, false),
  (80, .iload_n 2, 47, 2, 0, .null, false),
  (81, .if_icmp .ne 7, 48, 50, 0, .null, false),
  (84, .iconst 1, 49, 0, 0, .int 1, false),
  (85, .goto 13, 0, 55, 0, .null, false),
  (88, .iload_n 3, 51, 3, 0, .null, false),
  (89, .ifCond .ne 7, 52, 54, 0, .null, false),
  (92, .iconst 0, 53, 0, 0, .int 0, false),
  (93, .goto 5, 0, 55, 0, .null, false),
  (96, .bipush (-9), 55, 0, 0, .int (-9), false),
  (98, .ireturn, 0, 0, 0, .null, true)]
def q_X6_surely : List (List mm_N) := [q_X6_surely_0, q_X6_surely_1]
def q_X6_freed_0 : List mm_N := [(0, .iload_n 1, 1, 1, 0, .null, false),
  (1, .iconst 0, 2, 0, 0, .int 0, false),
  (2, .iconst 4, 3, 0, 0, .int 4, false),
  (3, .invokestatic 72, 4, 117, 3, .null, false),
  (6, .ifCond .ne 5, 5, 7, 0, .null, false),
  (9, .iconst (-1), 6, 0, 0, .int (-1), false),
  (10, .ireturn, 0, 0, 0, .null, false),
  (11, .aload_n 0, 8, 0, 0, .null, false),
  (12, .invokevirtual 145, 9, 158, 1, .null, false),
  (15, .aload_n 0, 10, 0, 0, .null, false),
  (16, .invokevirtual 176, 11, 164, 1, .null, false),
  (19, .istore_n 2, 12, 2, 0, .null, false),
  (20, .iload_n 2, 13, 2, 0, .null, false),
  (21, .bipush (-9), 14, 0, 0, .int (-9), false),
  (23, .if_icmp .ne 9, 15, 19, 0, .null, false),
  (26, .aload_n 0, 16, 0, 0, .null, false),
  (27, .iconst 4, 17, 0, 0, .int 4, false),
  (28, .invokevirtual 80, 18, 120, 2, .null, false),
  (31, .ireturn, 0, 0, 0, .null, false),
  (32, .iconst 0, 20, 0, 0, .int 0, false),
  (33, .istore_n 3, 21, 3, 0, .null, false),
  (34, .iconst 0, 22, 0, 0, .int 0, false),
  (35, .istore 4, 23, 4, 0, .null, false),
  (37, .iload 4, 24, 4, 0, .null, true),
  (39, .bipush 32, 25, 0, 0, .int 32, false),
  (41, .if_icmp .ge 48, 26, 53, 0, .null, false),
  (44, .iload_n 3, 27, 3, 0, .null, false),
  (45, .aload_n 0, 28, 0, 0, .null, false),
  (46, .iload 4, 29, 4, 0, .null, false),
  (48, .iload_n 2, 30, 2, 0, .null, false),
  (49, .bipush 31, 31, 0, 0, .int 31, false),
  (51, .invokevirtual 222, 32, 188, 4, .null, false)]
def q_X6_freed_1 : List mm_N := [(54, .iconst 1, 33, 0, 0, .int 1, false),
  (55, .if_icmp .ne 25, 34, 48, 0, .null, false),
  (58, .aload_n 0, 35, 0, 0, .null, false),
  (59, .iload 4, 36, 4, 0, .null, false),
  (61, .iload_n 2, 37, 2, 0, .null, false),
  (62, .bipush 31, 38, 0, 0, .int 31, false),
  (64, .iconst 1, 39, 0, 0, .int 1, false),
  (65, .iload_n 1, 40, 1, 0, .null, false),
  (66, .ishl, 41, 0, 0, .null, false),
  (67, .iconst (-1), 42, 0, 0, .int (-1), false),
  (68, .ixor, 43, 0, 0, .null, false),
  (69, .iand, 44, 0, 0, .null, false),
  (70, .invokevirtual 222, 45, 188, 4, .null, false),
  (73, .ifCond .ne 7, 46, 48, 0, .null, false),
  (76, .iconst 1, 47, 0, 0, .int 1, false),
  (77, .goto 4, 0, 49, 0, .null, false),
  (80, .iconst 0, 49, 0, 0, .int 0, true),
  (81, .iadd, 50, 0, 0, .null, true),
  (82, .istore_n 3, 51, 3, 0, .null, false),
  (83, .iinc 4 1, 52, 4, 0, .int 1, false),
  (86, .goto (-49), 0, 23, 0, .null, false),
  (89, .iload_n 3, 54, 3, 0, .null, false),
  (90, .ireturn, 0, 0, 0, .null, false)]
def q_X6_freed : List (List mm_N) := [q_X6_freed_0, q_X6_freed_1]
def q_X6_agrees_0 : List mm_N := [(0, .iconst 1, 1, 0, 0, .int 1, false),
  (1, .istore_n 3, 2, 3, 0, .null, false),
  (2, .iconst 0, 3, 0, 0, .int 0, false),
  (3, .istore 4, 4, 4, 0, .null, false),
  (5, .iload 4, 5, 4, 0, .null, true),
  (7, .bipush 32, 6, 0, 0, .int 32, false),
  (9, .if_icmp .ge 40, 7, 26, 0, .null, false),
  (12, .iload_n 3, 8, 3, 0, .null, false),
  (13, .ifCond .eq 28, 9, 22, 0, .null, false),
  (16, .aload_n 0, 10, 0, 0, .null, false),
  (17, .iload 4, 11, 4, 0, .null, false),
  (19, .iload_n 1, 12, 1, 0, .null, false),
  (20, .bipush 31, 13, 0, 0, .int 31, false),
  (22, .invokevirtual 222, 14, 188, 4, .null, false),
  (25, .aload_n 0, 15, 0, 0, .null, false),
  (26, .iload 4, 16, 4, 0, .null, false),
  (28, .iload_n 2, 17, 2, 0, .null, false),
  (29, .bipush 31, 18, 0, 0, .int 31, false),
  (31, .invokevirtual 222, 19, 188, 4, .null, false),
  (34, .if_icmp .ne 7, 20, 22, 0, .null, false),
  (37, .iconst 1, 21, 0, 0, .int 1, false),
  (38, .goto 4, 0, 23, 0, .null, false),
  (41, .iconst 0, 23, 0, 0, .int 0, true),
  (42, .istore_n 3, 24, 3, 0, .null, true),
  (43, .iinc 4 1, 25, 4, 0, .int 1, false),
  (46, .goto (-41), 0, 4, 0, .null, false),
  (49, .iload_n 3, 27, 3, 0, .null, false),
  (50, .ireturn, 0, 0, 0, .null, false)]
def q_X6_agrees : List (List mm_N) := [q_X6_agrees_0]
def q_X6_code_0 : List mm_N := [(0, .aload_n 0, 1, 0, 0, .null, false),
  (1, .invokevirtual 145, 2, 158, 1, .null, false),
  (4, .aload_n 0, 3, 0, 0, .null, false),
  (5, .invokevirtual 176, 4, 164, 1, .null, false),
  (8, .istore_n 1, 5, 1, 0, .null, false),
  (9, .iload_n 1, 6, 1, 0, .null, false),
  (10, .bipush (-9), 7, 0, 0, .int (-9), false),
  (12, .if_icmp .ne 9, 8, 12, 0, .null, false),
  (15, .aload_n 0, 9, 0, 0, .null, false),
  (16, .iconst 4, 10, 0, 0, .int 4, false),
  (17, .invokevirtual 80, 11, 120, 2, .null, false),
  (20, .ireturn, 0, 0, 0, .null, false),
  (21, .iload_n 1, 13, 1, 0, .null, false),
  (22, .istore_n 2, 14, 2, 0, .null, false),
  (23, .iload_n 1, 15, 1, 0, .null, false),
  (24, .istore_n 3, 16, 3, 0, .null, false),
  (25, .iload_n 3, 17, 3, 0, .null, true),
  (26, .ifCond .lt 55, 18, 46, 0, .null, false),
  (29, .iload_n 3, 19, 3, 0, .null, false),
  (30, .iload_n 1, 20, 1, 0, .null, false),
  (31, .iconst (-1), 21, 0, 0, .int (-1), false),
  (32, .ixor, 22, 0, 0, .null, false),
  (33, .iand, 23, 0, 0, .null, false),
  (34, .ifCond .ne 18, 24, 31, 0, .null, false),
  (37, .iload_n 3, 25, 3, 0, .null, false),
  (38, .invokestatic 213, 26, 119, 1, .null, false),
  (41, .iload_n 2, 27, 2, 0, .null, false),
  (42, .invokestatic 213, 28, 119, 1, .null, false),
  (45, .if_icmp .gt 7, 29, 31, 0, .null, false),
  (48, .iconst 1, 30, 0, 0, .int 1, false),
  (49, .goto 4, 0, 32, 0, .null, false),
  (52, .iconst 0, 32, 0, 0, .int 0, true)]
def q_X6_code_1 : List mm_N := [(53, .istore 4, 33, 4, 0, .null, true),
  (55, .iload 4, 34, 4, 0, .null, false),
  (57, .ifCond .eq 16, 35, 42, 0, .null, false),
  (60, .aload_n 0, 36, 0, 0, .null, false),
  (61, .iload_n 3, 37, 3, 0, .null, false),
  (62, .iload_n 1, 38, 1, 0, .null, false),
  (63, .invokevirtual 225, 39, 192, 3, .null, false),
  (66, .ifCond .eq 7, 40, 42, 0, .null, false),
  (69, .iload_n 3, 41, 3, 0, .null, false),
  (70, .goto 4, 0, 43, 0, .null, false),
  (73, .iload_n 2, 43, 2, 0, .null, true),
  (74, .istore_n 2, 44, 2, 0, .null, true),
  (75, .iinc 3 (-1), 45, 3, 0, .int (-1), false),
  (78, .goto (-53), 0, 16, 0, .null, false),
  (81, .aload_n 0, 47, 0, 0, .null, false),
  (82, .iload_n 2, 48, 2, 0, .null, false),
  (83, .putfield 69, 49, 6, 7, .null, false),
  (86, .iload_n 2, 50, 2, 0, .null, false),
  (87, .invokestatic 213, 51, 119, 1, .null, false),
  (90, .ireturn, 0, 0, 0, .null, false)]
def q_X6_code : List (List mm_N) := [q_X6_code_0, q_X6_code_1]
def q_X6_kinds_0 : List mm_N := [(0, .aload_n 0, 1, 0, 0, .null, false),
  (1, .iload_n 1, 2, 1, 0, .null, false),
  (2, .invokevirtual 135, 3, 143, 2, .null, false),
  (5, .ifCond .eq 11, 4, 8, 0, .null, false),
  (8, .aload_n 0, 5, 0, 0, .null, false),
  (9, .iload_n 2, 6, 2, 0, .null, false),
  (10, .invokevirtual 170, 7, 144, 2, .null, false),
  (13, .ifCond .ne 5, 8, 10, 0, .null, false),
  (16, .iconst (-1), 9, 0, 0, .int (-1), true),
  (17, .ireturn, 0, 0, 0, .null, false),
  (18, .aload_n 0, 11, 0, 0, .null, false),
  (19, .invokevirtual 145, 12, 158, 1, .null, false),
  (22, .aload_n 0, 13, 0, 0, .null, false),
  (23, .getfield 32, 14, 6, 11, .null, false),
  (26, .iload_n 1, 15, 1, 0, .null, false),
  (27, .iaload, 16, 0, 0, .null, false),
  (28, .istore_n 3, 17, 3, 0, .null, false),
  (29, .iconst 0, 18, 0, 0, .int 0, false),
  (30, .istore 4, 19, 4, 0, .null, false),
  (32, .iconst 0, 20, 0, 0, .int 0, false),
  (33, .istore 5, 21, 5, 0, .null, false),
  (35, .iload 5, 22, 5, 0, .null, true),
  (37, .bipush 6, 23, 0, 0, .int 6, false),
  (39, .if_icmp .ge 38, 24, 43, 0, .null, false),
  (42, .aload_n 0, 25, 0, 0, .null, false),
  (43, .getfield 32, 26, 6, 11, .null, false),
  (46, .iload_n 1, 27, 1, 0, .null, false),
  (47, .iload 5, 28, 5, 0, .null, false),
  (49, .iastore, 29, 0, 0, .null, false),
  (50, .iload 4, 30, 4, 0, .null, false),
  (52, .aload_n 0, 31, 0, 0, .null, false),
  (53, .iload_n 2, 32, 2, 0, .null, false)]
def q_X6_kinds_1 : List mm_N := [(54, .invokevirtual 173, 33, 161, 2, .null, false),
  (57, .ifCond .eq 10, 34, 38, 0, .null, false),
  (60, .iconst 1, 35, 0, 0, .int 1, false),
  (61, .iload 5, 36, 5, 0, .null, false),
  (63, .ishl, 37, 0, 0, .null, false),
  (64, .goto 4, 0, 39, 0, .null, false),
  (67, .iconst 0, 39, 0, 0, .int 0, false),
  (68, .ior, 40, 0, 0, .null, true),
  (69, .istore 4, 41, 4, 0, .null, false),
  (71, .iinc 5 1, 42, 5, 0, .int 1, false),
  (74, .goto (-39), 0, 21, 0, .null, false),
  (77, .aload_n 0, 44, 0, 0, .null, false),
  (78, .getfield 32, 45, 6, 11, .null, false),
  (81, .iload_n 1, 46, 1, 0, .null, false),
  (82, .iload_n 3, 47, 3, 0, .null, false),
  (83, .iastore, 48, 0, 0, .null, false),
  (84, .iload 4, 49, 4, 0, .null, false),
  (86, .ireturn, 0, 0, 0, .null, false)]
def q_X6_kinds : List (List mm_N) := [q_X6_kinds_0, q_X6_kinds_1]
def q_X6_forged_0 : List mm_N := [(0, .aload_n 0, 1, 0, 0, .null, false),
  (1, .iload_n 1, 2, 1, 0, .null, false),
  (2, .invokevirtual 170, 3, 144, 2, .null, false),
  (5, .ifCond .ne 5, 4, 6, 0, .null, false),
  (8, .iconst (-1), 5, 0, 0, .int (-1), false),
  (9, .ireturn, 0, 0, 0, .null, false),
  (10, .aload_n 0, 7, 0, 0, .null, false),
  (11, .invokevirtual 145, 8, 158, 1, .null, false),
  (14, .iconst 0, 9, 0, 0, .int 0, false),
  (15, .istore_n 2, 10, 2, 0, .null, false),
  (16, .iconst 0, 11, 0, 0, .int 0, false),
  (17, .istore_n 3, 12, 3, 0, .null, false),
  (18, .iload_n 3, 13, 3, 0, .null, true),
  (19, .aload_n 0, 14, 0, 0, .null, false),
  (20, .getfield 121, 15, 6, 10, .null, false),
  (23, .if_icmp .ge 106, 16, 72, 0, .null, false),
  (26, .iconst 0, 17, 0, 0, .int 0, false),
  (27, .istore 4, 18, 4, 0, .null, false),
  (29, .iconst 0, 19, 0, 0, .int 0, false),
  (30, .istore 5, 20, 5, 0, .null, false),
  (32, .iload 5, 21, 5, 0, .null, true),
  (34, .aload_n 0, 22, 0, 0, .null, false),
  (35, .getfield 121, 23, 6, 10, .null, false),
  (38, .if_icmp .ge 58, 24, 53, 0, .null, false),
  (41, .iload 4, 25, 4, 0, .null, false),
  (43, .aload_n 0, 26, 0, 0, .null, false),
  (44, .iload 5, 27, 5, 0, .null, false),
  (46, .iload_n 1, 28, 1, 0, .null, false),
  (47, .aload_n 0, 29, 0, 0, .null, false),
  (48, .getfield 32, 30, 6, 11, .null, false),
  (51, .iload 5, 31, 5, 0, .null, false),
  (53, .iaload, 32, 0, 0, .null, false)]
def q_X6_forged_1 : List mm_N := [(54, .iload 5, 33, 5, 0, .null, false),
  (56, .iload_n 3, 34, 3, 0, .null, false),
  (57, .if_icmp .ne 8, 35, 37, 0, .null, false),
  (60, .bipush (-9), 36, 0, 0, .int (-9), false),
  (62, .goto 10, 0, 41, 0, .null, false),
  (65, .aload_n 0, 38, 0, 0, .null, false),
  (66, .getfield 41, 39, 6, 14, .null, false),
  (69, .iload 5, 40, 5, 0, .null, false),
  (71, .iaload, 41, 0, 0, .null, false),
  (72, .iload_n 3, 42, 3, 0, .null, true),
  (73, .invokevirtual 163, 43, 159, 6, .null, false),
  (76, .ifCond .eq 10, 44, 48, 0, .null, false),
  (79, .iconst 1, 45, 0, 0, .int 1, false),
  (80, .iload 5, 46, 5, 0, .null, false),
  (82, .ishl, 47, 0, 0, .null, false),
  (83, .goto 4, 0, 49, 0, .null, false),
  (86, .iconst 0, 49, 0, 0, .int 0, false),
  (87, .ior, 50, 0, 0, .null, true),
  (88, .istore 4, 51, 4, 0, .null, false),
  (90, .iinc 5 1, 52, 5, 0, .int 1, false),
  (93, .goto (-61), 0, 20, 0, .null, false),
  (96, .iload_n 2, 54, 2, 0, .null, false),
  (97, .aload_n 0, 55, 0, 0, .null, false),
  (98, .getfield 41, 56, 6, 14, .null, false),
  (101, .iload_n 3, 57, 3, 0, .null, false),
  (102, .iaload, 58, 0, 0, .null, false),
  (103, .bipush (-9), 59, 0, 0, .int (-9), false),
  (105, .if_icmp .eq 15, 60, 67, 0, .null, false),
  (108, .iload 4, 61, 4, 0, .null, false),
  (110, .iload_n 1, 62, 1, 0, .null, false),
  (111, .if_icmp .ne 9, 63, 67, 0, .null, false),
  (114, .iconst 1, 64, 0, 0, .int 1, false)]
def q_X6_forged_2 : List mm_N := [(115, .iload_n 3, 65, 3, 0, .null, false),
  (116, .ishl, 66, 0, 0, .null, false),
  (117, .goto 4, 0, 68, 0, .null, false),
  (120, .iconst 0, 68, 0, 0, .int 0, true),
  (121, .ior, 69, 0, 0, .null, true),
  (122, .istore_n 2, 70, 2, 0, .null, false),
  (123, .iinc 3 1, 71, 3, 0, .int 1, false),
  (126, .goto (-108), 0, 12, 0, .null, false),
  (129, .iload_n 2, 73, 2, 0, .null, false),
  (130, .ireturn, 0, 0, 0, .null, false)]
def q_X6_forged : List (List mm_N) := [q_X6_forged_0, q_X6_forged_1, q_X6_forged_2]
def q_X6_torn_0 : List mm_N := [(0, .aload_n 0, 1, 0, 0, .null, false),
  (1, .iload_n 1, 2, 1, 0, .null, false),
  (2, .invokevirtual 170, 3, 144, 2, .null, false),
  (5, .ifCond .eq 11, 4, 8, 0, .null, false),
  (8, .aload_n 0, 5, 0, 0, .null, false),
  (9, .iload_n 2, 6, 2, 0, .null, false),
  (10, .invokevirtual 170, 7, 144, 2, .null, false),
  (13, .ifCond .ne 5, 8, 10, 0, .null, false),
  (16, .iconst (-1), 9, 0, 0, .int (-1), true),
  (17, .ireturn, 0, 0, 0, .null, false),
  (18, .aload_n 0, 11, 0, 0, .null, false),
  (19, .invokevirtual 145, 12, 158, 1, .null, false),
  (22, .iconst 0, 13, 0, 0, .int 0, false),
  (23, .istore_n 3, 14, 3, 0, .null, false),
  (24, .bipush (-9), 15, 0, 0, .int (-9), false),
  (26, .istore 4, 16, 4, 0, .null, false),
  (28, .iconst 0, 17, 0, 0, .int 0, false),
  (29, .istore 5, 18, 5, 0, .null, false),
  (31, .iload 5, 19, 5, 0, .null, true),
  (33, .iconst 1, 20, 0, 0, .int 1, false),
  (34, .aload_n 0, 21, 0, 0, .null, false),
  (35, .getfield 121, 22, 6, 10, .null, false),
  (38, .ishl, 23, 0, 0, .null, false),
  (39, .if_icmp .ge 65, 24, 56, 0, .null, false),
  (42, .iload 5, 25, 5, 0, .null, false),
  (44, .iload_n 2, 26, 2, 0, .null, false),
  (45, .ixor, 27, 0, 0, .null, false),
  (46, .iload_n 1, 28, 1, 0, .null, false),
  (47, .iand, 29, 0, 0, .null, false),
  (48, .ifCond .ne 16, 30, 36, 0, .null, false),
  (51, .aload_n 0, 31, 0, 0, .null, false),
  (52, .iload 5, 32, 5, 0, .null, false)]
def q_X6_torn_1 : List mm_N := [(54, .invokevirtual 173, 33, 161, 2, .null, false),
  (57, .ifCond .eq 7, 34, 36, 0, .null, false),
  (60, .iconst 1, 35, 0, 0, .int 1, false),
  (61, .goto 4, 0, 37, 0, .null, false),
  (64, .iconst 0, 37, 0, 0, .int 0, true),
  (65, .istore 6, 38, 6, 0, .null, true),
  (67, .iload 6, 39, 6, 0, .null, false),
  (69, .ifCond .eq 12, 40, 44, 0, .null, false),
  (72, .iload_n 3, 41, 3, 0, .null, false),
  (73, .ifCond .ne 8, 42, 44, 0, .null, false),
  (76, .iload 5, 43, 5, 0, .null, false),
  (78, .goto 5, 0, 45, 0, .null, false),
  (81, .iload 4, 45, 4, 0, .null, true),
  (83, .istore 4, 46, 4, 0, .null, true),
  (85, .iload_n 3, 47, 3, 0, .null, false),
  (86, .iload 6, 48, 6, 0, .null, false),
  (88, .ifCond .eq 7, 49, 51, 0, .null, false),
  (91, .iconst 1, 50, 0, 0, .int 1, false),
  (92, .goto 4, 0, 52, 0, .null, false),
  (95, .iconst 0, 52, 0, 0, .int 0, false),
  (96, .iadd, 53, 0, 0, .null, true),
  (97, .istore_n 3, 54, 3, 0, .null, false),
  (98, .iinc 5 1, 55, 5, 0, .int 1, false),
  (101, .goto (-70), 0, 18, 0, .null, false),
  (104, .aload_n 0, 57, 0, 0, .null, false),
  (105, .iload 4, 58, 4, 0, .null, false),
  (107, .putfield 69, 59, 6, 7, .null, false),
  (110, .iload_n 3, 60, 3, 0, .null, false),
  (111, .ireturn, 0, 0, 0, .null, false)]
def q_X6_torn : List (List mm_N) := [q_X6_torn_0, q_X6_torn_1]
def q_X6_ahead_0 : List mm_N := [(0, .iconst 0, 1, 0, 0, .int 0, false),
  (1, .istore_n 2, 2, 2, 0, .null, false),
  (2, .iconst 0, 3, 0, 0, .int 0, false),
  (3, .istore_n 3, 4, 3, 0, .null, false),
  (4, .iload_n 3, 5, 3, 0, .null, true),
  (5, .aload_n 0, 6, 0, 0, .null, false),
  (6, .getfield 121, 7, 6, 10, .null, false),
  (9, .if_icmp .ge 27, 8, 22, 0, .null, false),
  (12, .iload_n 2, 9, 2, 0, .null, false),
  (13, .aload_n 0, 10, 0, 0, .null, false),
  (14, .getfield 35, 11, 6, 12, .null, false),
  (17, .iload_n 3, 12, 3, 0, .null, false),
  (18, .iaload, 13, 0, 0, .null, false),
  (19, .iload_n 1, 14, 1, 0, .null, false),
  (20, .if_icmp .ge 7, 15, 17, 0, .null, false),
  (23, .iconst 1, 16, 0, 0, .int 1, false),
  (24, .goto 4, 0, 18, 0, .null, false),
  (27, .iconst 0, 18, 0, 0, .int 0, false),
  (28, .iadd, 19, 0, 0, .null, true),
  (29, .istore_n 2, 20, 2, 0, .null, false),
  (30, .iinc 3 1, 21, 3, 0, .int 1, false),
  (33, .goto (-29), 0, 4, 0, .null, false),
  (36, .iload_n 2, 23, 2, 0, .null, false),
  (37, .ireturn, 0, 0, 0, .null, false)]
def q_X6_ahead : List (List mm_N) := [q_X6_ahead_0]
def q_X6_nthAhead_0 : List mm_N := [(0, .iconst 0, 1, 0, 0, .int 0, false),
  (1, .istore_n 3, 2, 3, 0, .null, false),
  (2, .iconst 0, 3, 0, 0, .int 0, false),
  (3, .istore 4, 4, 4, 0, .null, false),
  (5, .iload 4, 5, 4, 0, .null, true),
  (7, .aload_n 0, 6, 0, 0, .null, false),
  (8, .getfield 121, 7, 6, 10, .null, false),
  (11, .if_icmp .ge 31, 8, 22, 0, .null, false),
  (14, .aload_n 0, 9, 0, 0, .null, false),
  (15, .getfield 35, 10, 6, 12, .null, false),
  (18, .iload 4, 11, 4, 0, .null, false),
  (20, .iaload, 12, 0, 0, .null, false),
  (21, .iload_n 1, 13, 1, 0, .null, false),
  (22, .if_icmp .ge 14, 14, 20, 0, .null, false),
  (25, .iload_n 3, 15, 3, 0, .null, false),
  (26, .iload_n 2, 16, 2, 0, .null, false),
  (27, .if_icmp .ne 6, 17, 19, 0, .null, false),
  (30, .iload 4, 18, 4, 0, .null, false),
  (32, .ireturn, 0, 0, 0, .null, false),
  (33, .iinc 3 1, 20, 3, 0, .int 1, false),
  (36, .iinc 4 1, 21, 4, 0, .int 1, true),
  (39, .goto (-34), 0, 4, 0, .null, false),
  (42, .bipush (-9), 23, 0, 0, .int (-9), false),
  (44, .ireturn, 0, 0, 0, .null, false)]
def q_X6_nthAhead : List (List mm_N) := [q_X6_nthAhead_0]
def q_X6_lots_0 : List mm_N := [(0, .iload_n 1, 1, 1, 0, .null, false),
  (1, .iconst 1, 2, 0, 0, .int 1, false),
  (2, .bipush 9, 3, 0, 0, .int 9, false),
  (4, .invokestatic 72, 4, 117, 3, .null, false),
  (7, .ifCond .eq 13, 5, 10, 0, .null, false),
  (10, .iload_n 2, 6, 2, 0, .null, false),
  (11, .iconst 1, 7, 0, 0, .int 1, false),
  (12, .ldc 228, 8, 0, 0, .int 2147483646, false),
  (14, .invokestatic 72, 9, 117, 3, .null, false),
  (17, .ifCond .ne 5, 10, 12, 0, .null, false),
  (20, .iconst (-1), 11, 0, 0, .int (-1), true),
  (21, .ireturn, 0, 0, 0, .null, false),
  (22, .aload_n 0, 13, 0, 0, .null, false),
  (23, .getfield 121, 14, 6, 10, .null, false),
  (26, .iload_n 1, 15, 1, 0, .null, false),
  (27, .iadd, 16, 0, 0, .null, false),
  (28, .bipush 9, 17, 0, 0, .int 9, false),
  (30, .if_icmp .le 6, 18, 20, 0, .null, false),
  (33, .bipush (-2), 19, 0, 0, .int (-2), false),
  (35, .ireturn, 0, 0, 0, .null, false),
  (36, .iload_n 2, 21, 2, 0, .null, false),
  (37, .i2l, 22, 0, 0, .null, false),
  (38, .lstore_n 3, 23, 3, 0, .null, false),
  (39, .iconst 0, 24, 0, 0, .int 0, false),
  (40, .istore 5, 25, 5, 0, .null, false),
  (42, .iload 5, 26, 5, 0, .null, true),
  (44, .iload_n 1, 27, 1, 0, .null, false),
  (45, .if_icmp .ge 115, 28, 88, 0, .null, false),
  (48, .lload_n 3, 29, 3, 0, .null, false),
  (49, .ldc2_w 229, 30, 0, 0, .long 48271, false),
  (52, .lmul, 31, 0, 0, .null, false),
  (53, .ldc2_w 231, 32, 0, 0, .long 2147483647, false)]
def q_X6_lots_1 : List mm_N := [(56, .lrem, 33, 0, 0, .null, false),
  (57, .lstore_n 3, 34, 3, 0, .null, false),
  (58, .lload_n 3, 35, 3, 0, .null, false),
  (59, .l2i, 36, 0, 0, .null, false),
  (60, .istore 6, 37, 6, 0, .null, false),
  (62, .iload 6, 38, 6, 0, .null, false),
  (64, .bipush 8, 39, 0, 0, .int 8, false),
  (66, .idiv, 40, 0, 0, .null, false),
  (67, .bipush 10, 41, 0, 0, .int 10, false),
  (69, .irem, 42, 0, 0, .null, false),
  (70, .istore 7, 43, 7, 0, .null, false),
  (72, .aload_n 0, 44, 0, 0, .null, false),
  (73, .iload 7, 45, 7, 0, .null, false),
  (75, .invokevirtual 233, 46, 197, 2, .null, false),
  (78, .istore 8, 47, 8, 0, .null, false),
  (80, .iload 8, 48, 8, 0, .null, false),
  (82, .ifCond .ne 8, 49, 51, 0, .null, false),
  (85, .bipush (-9), 50, 0, 0, .int (-9), false),
  (87, .goto 18, 0, 59, 0, .null, false),
  (90, .aload_n 0, 52, 0, 0, .null, false),
  (91, .iload 7, 53, 7, 0, .null, false),
  (93, .iload 6, 54, 6, 0, .null, false),
  (95, .sipush 256, 55, 0, 0, .int 256, false),
  (98, .idiv, 56, 0, 0, .null, false),
  (99, .iload 8, 57, 8, 0, .null, false),
  (101, .irem, 58, 0, 0, .null, false),
  (102, .invokevirtual 236, 59, 198, 3, .null, false),
  (105, .istore 9, 60, 9, 0, .null, true),
  (107, .aload_n 0, 61, 0, 0, .null, false),
  (108, .iload 6, 62, 6, 0, .null, false),
  (110, .bipush 6, 63, 0, 0, .int 6, false),
  (112, .irem, 64, 0, 0, .null, false)]
def q_X6_lots_2 : List mm_N := [(113, .iload 7, 65, 7, 0, .null, false),
  (115, .iload 6, 66, 6, 0, .null, false),
  (117, .sipush 128, 67, 0, 0, .int 128, false),
  (120, .idiv, 68, 0, 0, .null, false),
  (121, .iconst 2, 69, 0, 0, .int 2, false),
  (122, .irem, 70, 0, 0, .null, false),
  (123, .iload 9, 71, 9, 0, .null, false),
  (125, .iload 8, 72, 8, 0, .null, false),
  (127, .ifCond .ne 7, 73, 75, 0, .null, false),
  (130, .iconst 0, 74, 0, 0, .int 0, false),
  (131, .goto 19, 0, 84, 0, .null, false),
  (134, .iload 6, 76, 6, 0, .null, false),
  (136, .sipush 16384, 77, 0, 0, .int 16384, false),
  (139, .idiv, 78, 0, 0, .null, false),
  (140, .iconst 2, 79, 0, 0, .int 2, false),
  (141, .irem, 80, 0, 0, .null, false),
  (142, .ifCond .ne 7, 81, 83, 0, .null, false),
  (145, .iconst (-1), 82, 0, 0, .int (-1), false),
  (146, .goto 4, 0, 84, 0, .null, false),
  (149, .iconst 1, 84, 0, 0, .int 1, false),
  (150, .iconst 0, 85, 0, 0, .int 0, true),
  (151, .invokevirtual 124, 86, 141, 7, .null, false),
  (154, .iinc 5 1, 87, 5, 0, .int 1, false),
  (157, .goto (-115), 0, 25, 0, .null, false),
  (160, .aload_n 0, 89, 0, 0, .null, false),
  (161, .getfield 121, 90, 6, 10, .null, false),
  (164, .ireturn, 0, 0, 0, .null, false)]
def q_X6_lots : List (List mm_N) := [q_X6_lots_0, q_X6_lots_1, q_X6_lots_2]
def q_X6_asked_0 : List mm_N := [(0, .aload_n 0, 1, 0, 0, .null, false),
  (1, .getfield 69, 2, 6, 7, .null, false),
  (4, .ireturn, 0, 0, 0, .null, false)]
def q_X6_asked : List (List mm_N) := [q_X6_asked_0]
def q_X6_upper_0 : List mm_N := [(0, .aload_n 0, 1, 0, 0, .null, false),
  (1, .getfield 192, 2, 6, 8, .null, false),
  (4, .lreturn, 0, 0, 0, .null, false)]
def q_X6_upper : List (List mm_N) := [q_X6_upper_0]
def q_X6_lower_0 : List mm_N := [(0, .aload_n 0, 1, 0, 0, .null, false),
  (1, .getfield 28, 2, 6, 9, .null, false),
  (4, .lreturn, 0, 0, 0, .null, false)]
def q_X6_lower : List (List mm_N) := [q_X6_lower_0]
def q_X6_counted_0 : List mm_N := [(0, .iconst 0, 1, 0, 0, .int 0, false),
  (1, .istore_n 2, 2, 2, 0, .null, false),
  (2, .iconst 0, 3, 0, 0, .int 0, false),
  (3, .istore_n 3, 4, 3, 0, .null, false),
  (4, .iload_n 3, 5, 3, 0, .null, true),
  (5, .aload_n 0, 6, 0, 0, .null, false),
  (6, .getfield 121, 7, 6, 10, .null, false),
  (9, .if_icmp .ge 99, 8, 61, 0, .null, false),
  (12, .iload_n 1, 9, 1, 0, .null, false),
  (13, .ifCond .eq 69, 10, 47, 0, .null, false),
  (16, .iload_n 1, 11, 1, 0, .null, false),
  (17, .iconst 1, 12, 0, 0, .int 1, false),
  (18, .if_icmp .ne 14, 13, 19, 0, .null, false),
  (21, .aload_n 0, 14, 0, 0, .null, false),
  (22, .getfield 41, 15, 6, 14, .null, false),
  (25, .iload_n 3, 16, 3, 0, .null, false),
  (26, .iaload, 17, 0, 0, .null, false),
  (27, .bipush (-9), 18, 0, 0, .int (-9), false),
  (29, .if_icmp .ne 53, 19, 47, 0, .null, false),
  (32, .iload_n 1, 20, 1, 0, .null, true),
  (33, .iconst 2, 21, 0, 0, .int 2, false),
  (34, .if_icmp .ne 12, 22, 27, 0, .null, false),
  (37, .aload_n 0, 23, 0, 0, .null, false),
  (38, .getfield 44, 24, 6, 15, .null, false),
  (41, .iload_n 3, 25, 3, 0, .null, false),
  (42, .iaload, 26, 0, 0, .null, false),
  (43, .ifCond .lt 39, 27, 47, 0, .null, false),
  (46, .iload_n 1, 28, 1, 0, .null, true),
  (47, .iconst 3, 29, 0, 0, .int 3, false),
  (48, .if_icmp .ne 16, 30, 37, 0, .null, false),
  (51, .aload_n 0, 31, 0, 0, .null, false),
  (52, .getfield 32, 32, 6, 11, .null, false)]
def q_X6_counted_1 : List mm_N := [(55, .iload_n 3, 33, 3, 0, .null, false),
  (56, .iaload, 34, 0, 0, .null, false),
  (57, .iconst 1, 35, 0, 0, .int 1, false),
  (58, .invokestatic 141, 36, 148, 2, .null, false),
  (61, .ifCond .ne 21, 37, 47, 0, .null, false),
  (64, .iload_n 1, 38, 1, 0, .null, true),
  (65, .iconst 4, 39, 0, 0, .int 4, false),
  (66, .if_icmp .ne 20, 40, 49, 0, .null, false),
  (69, .aload_n 0, 41, 0, 0, .null, false),
  (70, .getfield 32, 42, 6, 11, .null, false),
  (73, .iload_n 3, 43, 3, 0, .null, false),
  (74, .iaload, 44, 0, 0, .null, false),
  (75, .iconst 2, 45, 0, 0, .int 2, false),
  (76, .invokestatic 141, 46, 148, 2, .null, false),
  (79, .ifCond .eq 7, 47, 49, 0, .null, false),
  (82, .iconst 1, 48, 0, 0, .int 1, true),
  (83, .goto 4, 0, 50, 0, .null, false),
  (86, .iconst 0, 50, 0, 0, .int 0, true),
  (87, .istore 4, 51, 4, 0, .null, true),
  (89, .iload_n 2, 52, 2, 0, .null, false),
  (90, .iload 4, 53, 4, 0, .null, false),
  (92, .ifCond .eq 7, 54, 56, 0, .null, false),
  (95, .iconst 1, 55, 0, 0, .int 1, false),
  (96, .goto 4, 0, 57, 0, .null, false),
  (99, .iconst 0, 57, 0, 0, .int 0, false),
  (100, .iadd, 58, 0, 0, .null, true),
  (101, .istore_n 2, 59, 2, 0, .null, false),
  (102, .iinc 3 1, 60, 3, 0, .int 1, false),
  (105, .goto (-101), 0, 4, 0, .null, false),
  (108, .iconst 0, 62, 0, 0, .int 0, false),
  (109, .istore_n 3, 63, 3, 0, .null, false),
  (110, .iload_n 3, 64, 3, 0, .null, true)]
def q_X6_counted_2 : List mm_N := [(111, .bipush 6, 65, 0, 0, .int 6, false),
  (113, .if_icmp .ge 31, 66, 82, 0, .null, false),
  (116, .iload_n 1, 67, 1, 0, .null, false),
  (117, .iconst 5, 68, 0, 0, .int 5, false),
  (118, .if_icmp .ne 26, 69, 82, 0, .null, false),
  (121, .iload_n 2, 70, 2, 0, .null, false),
  (122, .aload_n 0, 71, 0, 0, .null, false),
  (123, .getfield 7, 72, 6, 0, .null, false),
  (126, .iload_n 3, 73, 3, 0, .null, false),
  (127, .iaload, 74, 0, 0, .null, false),
  (128, .ifCond .ge 7, 75, 77, 0, .null, false),
  (131, .iconst 0, 76, 0, 0, .int 0, false),
  (132, .goto 4, 0, 78, 0, .null, false),
  (135, .iconst 1, 78, 0, 0, .int 1, false),
  (136, .iadd, 79, 0, 0, .null, true),
  (137, .istore_n 2, 80, 2, 0, .null, false),
  (138, .iinc 3 1, 81, 3, 0, .int 1, false),
  (141, .goto (-31), 0, 63, 0, .null, false),
  (144, .iconst 0, 83, 0, 0, .int 0, true),
  (145, .istore_n 3, 84, 3, 0, .null, false),
  (146, .iload_n 3, 85, 3, 0, .null, true),
  (147, .iconst 4, 86, 0, 0, .int 4, false),
  (148, .if_icmp .ge 32, 87, 103, 0, .null, false),
  (151, .iload_n 1, 88, 1, 0, .null, false),
  (152, .bipush 6, 89, 0, 0, .int 6, false),
  (154, .if_icmp .ne 26, 90, 103, 0, .null, false),
  (157, .iload_n 2, 91, 2, 0, .null, false),
  (158, .aload_n 0, 92, 0, 0, .null, false),
  (159, .getfield 16, 93, 6, 2, .null, false),
  (162, .iload_n 3, 94, 3, 0, .null, false),
  (163, .iaload, 95, 0, 0, .null, false),
  (164, .ifCond .ge 7, 96, 98, 0, .null, false)]
def q_X6_counted_3 : List mm_N := [(167, .iconst 0, 97, 0, 0, .int 0, false),
  (168, .goto 4, 0, 99, 0, .null, false),
  (171, .iconst 1, 99, 0, 0, .int 1, false),
  (172, .iadd, 100, 0, 0, .null, true),
  (173, .istore_n 2, 101, 2, 0, .null, false),
  (174, .iinc 3 1, 102, 3, 0, .int 1, false),
  (177, .goto (-31), 0, 84, 0, .null, false),
  (180, .iconst 0, 104, 0, 0, .int 0, true),
  (181, .istore_n 3, 105, 3, 0, .null, false),
  (182, .iload_n 3, 106, 3, 0, .null, true),
  (183, .iconst 3, 107, 0, 0, .int 3, false),
  (184, .if_icmp .ge 32, 108, 124, 0, .null, false),
  (187, .iload_n 1, 109, 1, 0, .null, false),
  (188, .bipush 7, 110, 0, 0, .int 7, false),
  (190, .if_icmp .ne 26, 111, 124, 0, .null, false),
  (193, .iload_n 2, 112, 2, 0, .null, false),
  (194, .aload_n 0, 113, 0, 0, .null, false),
  (195, .getfield 50, 114, 6, 17, .null, false),
  (198, .iload_n 3, 115, 3, 0, .null, false),
  (199, .iaload, 116, 0, 0, .null, false),
  (200, .ifCond .ge 7, 117, 119, 0, .null, false),
  (203, .iconst 0, 118, 0, 0, .int 0, false),
  (204, .goto 4, 0, 120, 0, .null, false),
  (207, .iconst 1, 120, 0, 0, .int 1, false),
  (208, .iadd, 121, 0, 0, .null, true),
  (209, .istore_n 2, 122, 2, 0, .null, false),
  (210, .iinc 3 1, 123, 3, 0, .int 1, false),
  (213, .goto (-31), 0, 105, 0, .null, false),
  (216, .iload_n 2, 125, 2, 0, .null, true),
  (217, .ireturn, 0, 0, 0, .null, false)]
def q_X6_counted : List (List mm_N) := [q_X6_counted_0, q_X6_counted_1, q_X6_counted_2, q_X6_counted_3]
def q_X6_count_0 : List mm_N := [(0, .iload_n 1, 1, 1, 0, .null, false),
  (1, .iconst 0, 2, 0, 0, .int 0, false),
  (2, .bipush 7, 3, 0, 0, .int 7, false),
  (4, .invokestatic 72, 4, 117, 3, .null, false),
  (7, .ifCond .eq 11, 5, 9, 0, .null, false),
  (10, .aload_n 0, 6, 0, 0, .null, false),
  (11, .iload_n 1, 7, 1, 0, .null, false),
  (12, .invokevirtual 239, 8, 203, 2, .null, false),
  (15, .goto 4, 0, 10, 0, .null, false),
  (18, .iconst (-1), 10, 0, 0, .int (-1), false),
  (19, .ireturn, 0, 0, 0, .null, true)]
def q_X6_count : List (List mm_N) := [q_X6_count_0]
def q_X6_finding_0 : List mm_N := [(0, .aload_n 0, 1, 0, 0, .null, false),
  (1, .getfield 65, 2, 6, 5, .null, false),
  (4, .ireturn, 0, 0, 0, .null, false)]
def q_X6_finding : List (List mm_N) := [q_X6_finding_0]
def q_X6_findings_0 : List mm_N := [(0, .iload_n 1, 1, 1, 0, .null, false),
  (1, .iconst 1, 2, 0, 0, .int 1, false),
  (2, .iconst 5, 3, 0, 0, .int 5, false),
  (3, .invokestatic 72, 4, 117, 3, .null, false),
  (6, .ifCond .eq 12, 5, 10, 0, .null, false),
  (9, .aload_n 0, 6, 0, 0, .null, false),
  (10, .getfield 25, 7, 6, 6, .null, false),
  (13, .iload_n 1, 8, 1, 0, .null, false),
  (14, .iaload, 9, 0, 0, .null, false),
  (15, .goto 4, 0, 11, 0, .null, false),
  (18, .iconst (-1), 11, 0, 0, .int (-1), false),
  (19, .ireturn, 0, 0, 0, .null, true)]
def q_X6_findings : List (List mm_N) := [q_X6_findings_0]
def q_X6_digest_0 : List mm_N := [(0, .ldc2_w 242, 1, 0, 0, .long 17, false),
  (3, .lstore_n 1, 2, 1, 0, .null, false),
  (4, .iconst 0, 3, 0, 0, .int 0, false),
  (5, .istore_n 3, 4, 3, 0, .null, false),
  (6, .iload_n 3, 5, 3, 0, .null, true),
  (7, .bipush 8, 6, 0, 0, .int 8, false),
  (9, .if_icmp .ge 22, 7, 18, 0, .null, false),
  (12, .ldc2_w 244, 8, 0, 0, .long 31, false),
  (15, .lload_n 1, 9, 1, 0, .null, false),
  (16, .lmul, 10, 0, 0, .null, false),
  (17, .aload_n 0, 11, 0, 0, .null, false),
  (18, .iload_n 3, 12, 3, 0, .null, false),
  (19, .invokevirtual 239, 13, 203, 2, .null, false),
  (22, .i2l, 14, 0, 0, .null, false),
  (23, .ladd, 15, 0, 0, .null, false),
  (24, .lstore_n 1, 16, 1, 0, .null, false),
  (25, .iinc 3 1, 17, 3, 0, .int 1, false),
  (28, .goto (-22), 0, 4, 0, .null, false),
  (31, .iconst 0, 19, 0, 0, .int 0, false),
  (32, .istore_n 3, 20, 3, 0, .null, false),
  (33, .iload_n 3, 21, 3, 0, .null, true),
  (34, .aload_n 0, 22, 0, 0, .null, false),
  (35, .getfield 121, 23, 6, 10, .null, false),
  (38, .if_icmp .ge 40, 24, 43, 0, .null, false),
  (41, .iconst 0, 25, 0, 0, .int 0, false),
  (42, .istore 4, 26, 4, 0, .null, false),
  (44, .iload 4, 27, 4, 0, .null, true),
  (46, .bipush 7, 28, 0, 0, .int 7, false),
  (48, .if_icmp .ge 24, 29, 41, 0, .null, false),
  (51, .ldc2_w 244, 30, 0, 0, .long 31, false),
  (54, .lload_n 1, 31, 1, 0, .null, false),
  (55, .lmul, 32, 0, 0, .null, false)]
def q_X6_digest_1 : List mm_N := [(56, .aload_n 0, 33, 0, 0, .null, false),
  (57, .iload_n 3, 34, 3, 0, .null, false),
  (58, .iload 4, 35, 4, 0, .null, false),
  (60, .invokevirtual 138, 36, 146, 3, .null, false),
  (63, .i2l, 37, 0, 0, .null, false),
  (64, .ladd, 38, 0, 0, .null, false),
  (65, .lstore_n 1, 39, 1, 0, .null, false),
  (66, .iinc 4 1, 40, 4, 0, .int 1, false),
  (69, .goto (-25), 0, 26, 0, .null, false),
  (72, .iinc 3 1, 42, 3, 0, .int 1, false),
  (75, .goto (-42), 0, 20, 0, .null, false),
  (78, .iconst 0, 44, 0, 0, .int 0, false),
  (79, .istore_n 3, 45, 3, 0, .null, false),
  (80, .iload_n 3, 46, 3, 0, .null, true),
  (81, .iconst 3, 47, 0, 0, .int 3, false),
  (82, .if_icmp .ge 36, 48, 67, 0, .null, false),
  (85, .ldc2_w 244, 49, 0, 0, .long 31, false),
  (88, .lload_n 1, 50, 1, 0, .null, false),
  (89, .lmul, 51, 0, 0, .null, false),
  (90, .aload_n 0, 52, 0, 0, .null, false),
  (91, .getfield 50, 53, 6, 17, .null, false),
  (94, .iload_n 3, 54, 3, 0, .null, false),
  (95, .iaload, 55, 0, 0, .null, false),
  (96, .ifCond .ge 7, 56, 58, 0, .null, false),
  (99, .iconst (-1), 57, 0, 0, .int (-1), false),
  (100, .goto 9, 0, 62, 0, .null, false),
  (103, .aload_n 0, 59, 0, 0, .null, false),
  (104, .getfield 50, 60, 6, 17, .null, false),
  (107, .iload_n 3, 61, 3, 0, .null, false),
  (108, .iaload, 62, 0, 0, .null, false),
  (109, .i2l, 63, 0, 0, .null, true),
  (110, .ladd, 64, 0, 0, .null, false)]
def q_X6_digest_2 : List mm_N := [(111, .lstore_n 1, 65, 1, 0, .null, false),
  (112, .iinc 3 1, 66, 3, 0, .int 1, false),
  (115, .goto (-35), 0, 45, 0, .null, false),
  (118, .iconst 0, 68, 0, 0, .int 0, false),
  (119, .istore_n 3, 69, 3, 0, .null, false),
  (120, .iload_n 3, 70, 3, 0, .null, true),
  (121, .bipush 6, 71, 0, 0, .int 6, false),
  (123, .if_icmp .ge 76, 72, 115, 0, .null, false),
  (126, .ldc2_w 244, 73, 0, 0, .long 31, false),
  (129, .lload_n 1, 74, 1, 0, .null, false),
  (130, .lmul, 75, 0, 0, .null, false),
  (131, .aload_n 0, 76, 0, 0, .null, false),
  (132, .getfield 7, 77, 6, 0, .null, false),
  (135, .iload_n 3, 78, 3, 0, .null, false),
  (136, .iaload, 79, 0, 0, .null, false),
  (137, .ifCond .ge 7, 80, 82, 0, .null, false),
  (140, .iconst (-1), 81, 0, 0, .int (-1), false),
  (141, .goto 9, 0, 86, 0, .null, false),
  (144, .aload_n 0, 83, 0, 0, .null, false),
  (145, .getfield 7, 84, 6, 0, .null, false),
  (148, .iload_n 3, 85, 3, 0, .null, false),
  (149, .iaload, 86, 0, 0, .null, false),
  (150, .i2l, 87, 0, 0, .null, true),
  (151, .ladd, 88, 0, 0, .null, false),
  (152, .lstore_n 1, 89, 1, 0, .null, false),
  (153, .iconst 0, 90, 0, 0, .int 0, false),
  (154, .istore 4, 91, 4, 0, .null, false),
  (156, .iload 4, 92, 4, 0, .null, true),
  (158, .aload_n 0, 93, 0, 0, .null, false),
  (159, .getfield 7, 94, 6, 0, .null, false),
  (162, .iload_n 3, 95, 3, 0, .null, false),
  (163, .iaload, 96, 0, 0, .null, false)]
def q_X6_digest_3 : List mm_N := [(164, .if_icmp .ge 29, 97, 113, 0, .null, false),
  (167, .ldc2_w 244, 98, 0, 0, .long 31, false),
  (170, .lload_n 1, 99, 1, 0, .null, false),
  (171, .lmul, 100, 0, 0, .null, false),
  (172, .aload_n 0, 101, 0, 0, .null, false),
  (173, .getfield 13, 102, 6, 1, .null, false),
  (176, .bipush 40, 103, 0, 0, .int 40, false),
  (178, .iload_n 3, 104, 3, 0, .null, false),
  (179, .imul, 105, 0, 0, .null, false),
  (180, .iload 4, 106, 4, 0, .null, false),
  (182, .iadd, 107, 0, 0, .null, false),
  (183, .iaload, 108, 0, 0, .null, false),
  (184, .i2l, 109, 0, 0, .null, false),
  (185, .ladd, 110, 0, 0, .null, false),
  (186, .lstore_n 1, 111, 1, 0, .null, false),
  (187, .iinc 4 1, 112, 4, 0, .int 1, false),
  (190, .goto (-34), 0, 91, 0, .null, false),
  (193, .iinc 3 1, 114, 3, 0, .int 1, false),
  (196, .goto (-76), 0, 69, 0, .null, false),
  (199, .iconst 0, 116, 0, 0, .int 0, false),
  (200, .istore_n 3, 117, 3, 0, .null, false),
  (201, .iload_n 3, 118, 3, 0, .null, true),
  (202, .iconst 4, 119, 0, 0, .int 4, false),
  (203, .if_icmp .ge 76, 120, 163, 0, .null, false),
  (206, .ldc2_w 244, 121, 0, 0, .long 31, false),
  (209, .lload_n 1, 122, 1, 0, .null, false),
  (210, .lmul, 123, 0, 0, .null, false),
  (211, .aload_n 0, 124, 0, 0, .null, false),
  (212, .getfield 16, 125, 6, 2, .null, false),
  (215, .iload_n 3, 126, 3, 0, .null, false),
  (216, .iaload, 127, 0, 0, .null, false),
  (217, .ifCond .ge 7, 128, 130, 0, .null, false)]
def q_X6_digest_4 : List mm_N := [(220, .iconst (-1), 129, 0, 0, .int (-1), false),
  (221, .goto 9, 0, 134, 0, .null, false),
  (224, .aload_n 0, 131, 0, 0, .null, false),
  (225, .getfield 16, 132, 6, 2, .null, false),
  (228, .iload_n 3, 133, 3, 0, .null, false),
  (229, .iaload, 134, 0, 0, .null, false),
  (230, .i2l, 135, 0, 0, .null, true),
  (231, .ladd, 136, 0, 0, .null, false),
  (232, .lstore_n 1, 137, 1, 0, .null, false),
  (233, .iconst 0, 138, 0, 0, .int 0, false),
  (234, .istore 4, 139, 4, 0, .null, false),
  (236, .iload 4, 140, 4, 0, .null, true),
  (238, .aload_n 0, 141, 0, 0, .null, false),
  (239, .getfield 16, 142, 6, 2, .null, false),
  (242, .iload_n 3, 143, 3, 0, .null, false),
  (243, .iaload, 144, 0, 0, .null, false),
  (244, .if_icmp .ge 29, 145, 161, 0, .null, false),
  (247, .ldc2_w 244, 146, 0, 0, .long 31, false),
  (250, .lload_n 1, 147, 1, 0, .null, false),
  (251, .lmul, 148, 0, 0, .null, false),
  (252, .aload_n 0, 149, 0, 0, .null, false),
  (253, .getfield 19, 150, 6, 3, .null, false),
  (256, .bipush 80, 151, 0, 0, .int 80, false),
  (258, .iload_n 3, 152, 3, 0, .null, false),
  (259, .imul, 153, 0, 0, .null, false),
  (260, .iload 4, 154, 4, 0, .null, false),
  (262, .iadd, 155, 0, 0, .null, false),
  (263, .iaload, 156, 0, 0, .null, false),
  (264, .i2l, 157, 0, 0, .null, false),
  (265, .ladd, 158, 0, 0, .null, false),
  (266, .lstore_n 1, 159, 1, 0, .null, false),
  (267, .iinc 4 1, 160, 4, 0, .int 1, false)]
def q_X6_digest_5 : List mm_N := [(270, .goto (-34), 0, 139, 0, .null, false),
  (273, .iinc 3 1, 162, 3, 0, .int 1, false),
  (276, .goto (-75), 0, 117, 0, .null, false),
  (279, .lload_n 1, 164, 1, 0, .null, false),
  (280, .lreturn, 0, 0, 0, .null, false)]
def q_X6_digest : List (List mm_N) := [q_X6_digest_0, q_X6_digest_1, q_X6_digest_2, q_X6_digest_3, q_X6_digest_4, q_X6_digest_5]
def q_J6_bitCount_0f7a4_0 : List mm_N := [(0, .iload_n 0, 1, 0, 0, .null, false),
  (1, .iload_n 0, 2, 0, 0, .null, false),
  (2, .iconst 1, 3, 0, 0, .int 1, false),
  (3, .iushr, 4, 0, 0, .null, false),
  (4, .ldc_w 265, 5, 0, 0, .int 1431655765, false),
  (7, .iand, 6, 0, 0, .null, false),
  (8, .isub, 7, 0, 0, .null, false),
  (9, .istore_n 0, 8, 0, 0, .null, false),
  (10, .iload_n 0, 9, 0, 0, .null, false),
  (11, .ldc_w 266, 10, 0, 0, .int 858993459, false),
  (14, .iand, 11, 0, 0, .null, false),
  (15, .iload_n 0, 12, 0, 0, .null, false),
  (16, .iconst 2, 13, 0, 0, .int 2, false),
  (17, .iushr, 14, 0, 0, .null, false),
  (18, .ldc_w 266, 15, 0, 0, .int 858993459, false),
  (21, .iand, 16, 0, 0, .null, false),
  (22, .iadd, 17, 0, 0, .null, false),
  (23, .istore_n 0, 18, 0, 0, .null, false),
  (24, .iload_n 0, 19, 0, 0, .null, false),
  (25, .iload_n 0, 20, 0, 0, .null, false),
  (26, .iconst 4, 21, 0, 0, .int 4, false),
  (27, .iushr, 22, 0, 0, .null, false),
  (28, .iadd, 23, 0, 0, .null, false),
  (29, .ldc_w 267, 24, 0, 0, .int 252645135, false),
  (32, .iand, 25, 0, 0, .null, false),
  (33, .istore_n 0, 26, 0, 0, .null, false),
  (34, .iload_n 0, 27, 0, 0, .null, false),
  (35, .iload_n 0, 28, 0, 0, .null, false),
  (36, .bipush 8, 29, 0, 0, .int 8, false),
  (38, .iushr, 30, 0, 0, .null, false),
  (39, .iadd, 31, 0, 0, .null, false),
  (40, .istore_n 0, 32, 0, 0, .null, false)]
def q_J6_bitCount_0f7a4_1 : List mm_N := [(41, .iload_n 0, 33, 0, 0, .null, false),
  (42, .iload_n 0, 34, 0, 0, .null, false),
  (43, .bipush 16, 35, 0, 0, .int 16, false),
  (45, .iushr, 36, 0, 0, .null, false),
  (46, .iadd, 37, 0, 0, .null, false),
  (47, .istore_n 0, 38, 0, 0, .null, false),
  (48, .iload_n 0, 39, 0, 0, .null, false),
  (49, .bipush 63, 40, 0, 0, .int 63, false),
  (51, .iand, 41, 0, 0, .null, false),
  (52, .ireturn, 0, 0, 0, .null, false)]
def q_J6_bitCount_0f7a4 : List (List mm_N) := [q_J6_bitCount_0f7a4_0, q_J6_bitCount_0f7a4_1]
def q_L_law_0 : List mm_N := [(0, .new 7, 1, 5, 0, .null, false),
  (3, .dup, 2, 0, 0, .null, false),
  (4, .invokespecial 9, 3, 51, 1, .null, false),
  (7, .astore_n 1, 4, 1, 0, .null, false),
  (8, .new 10, 5, 6, 0, .null, false),
  (11, .dup, 6, 0, 0, .null, false),
  (12, .invokespecial 12, 7, 116, 1, .null, false),
  (15, .astore_n 2, 8, 2, 0, .null, false),
  (16, .iconst 0, 9, 0, 0, .int 0, false),
  (17, .istore_n 3, 10, 3, 0, .null, false),
  (18, .iload_n 3, 11, 3, 0, .null, true),
  (19, .aload_n 0, 12, 0, 0, .null, false),
  (20, .arraylength, 13, 0, 0, .null, false),
  (21, .bipush 6, 14, 0, 0, .int 6, false),
  (23, .isub, 15, 0, 0, .null, false),
  (24, .if_icmp .gt 1489, 16, 1003, 0, .null, false),
  (27, .aload_n 0, 17, 0, 0, .null, false),
  (28, .iload_n 3, 18, 3, 0, .null, false),
  (29, .iaload, 19, 0, 0, .null, false),
  (30, .bipush 63, 20, 0, 0, .int 63, false),
  (32, .iand, 21, 0, 0, .null, false),
  (33, .tableswitch 1474 0 47 #[207, 240, 283, 316, 339, 402, 425, 458, 501, 524, 547, 580, 613, 646, 679, 742, 765, 788, 811, 834, 847, 870, 883, 906, 929, 952, 975, 988, 1021, 1054, 1077, 1100, 1113, 1146, 1179, 1202, 1225, 1238, 1271, 1294, 1327, 1360, 1373, 1387, 1401, 1424, 1437, 1460], 0, 0, 1001, .null, false),
  (240, .aload_n 1, 23, 1, 0, .null, false),
  (241, .aload_n 0, 24, 0, 0, .null, false),
  (242, .iload_n 3, 25, 3, 0, .null, false),
  (243, .iconst 1, 26, 0, 0, .int 1, false),
  (244, .iadd, 27, 0, 0, .null, false),
  (245, .iaload, 28, 0, 0, .null, false),
  (246, .aload_n 0, 29, 0, 0, .null, false),
  (247, .iload_n 3, 30, 3, 0, .null, false),
  (248, .iconst 2, 31, 0, 0, .int 2, false),
  (249, .iadd, 32, 0, 0, .null, false)]
def q_L_law_1 : List mm_N := [(250, .iaload, 33, 0, 0, .null, false),
  (251, .invokevirtual 13, 34, 52, 3, .null, false),
  (254, .aload_n 2, 35, 2, 0, .null, false),
  (255, .aload_n 0, 36, 0, 0, .null, false),
  (256, .iload_n 3, 37, 3, 0, .null, false),
  (257, .iconst 1, 38, 0, 0, .int 1, false),
  (258, .iadd, 39, 0, 0, .null, false),
  (259, .iaload, 40, 0, 0, .null, false),
  (260, .aload_n 0, 41, 0, 0, .null, false),
  (261, .iload_n 3, 42, 3, 0, .null, false),
  (262, .iconst 2, 43, 0, 0, .int 2, false),
  (263, .iadd, 44, 0, 0, .null, false),
  (264, .iaload, 45, 0, 0, .null, false),
  (265, .invokevirtual 17, 46, 124, 3, .null, false),
  (268, .if_icmp .eq 1239, 47, 1001, 0, .null, false),
  (271, .iconst 0, 48, 0, 0, .int 0, false),
  (272, .ireturn, 0, 0, 0, .null, false),
  (273, .aload_n 1, 50, 1, 0, .null, false),
  (274, .aload_n 0, 51, 0, 0, .null, false),
  (275, .iload_n 3, 52, 3, 0, .null, false),
  (276, .iconst 1, 53, 0, 0, .int 1, false),
  (277, .iadd, 54, 0, 0, .null, false),
  (278, .iaload, 55, 0, 0, .null, false),
  (279, .aload_n 0, 56, 0, 0, .null, false),
  (280, .iload_n 3, 57, 3, 0, .null, false),
  (281, .iconst 2, 58, 0, 0, .int 2, false),
  (282, .iadd, 59, 0, 0, .null, false),
  (283, .iaload, 60, 0, 0, .null, false),
  (284, .aload_n 0, 61, 0, 0, .null, false),
  (285, .iload_n 3, 62, 3, 0, .null, false),
  (286, .iconst 3, 63, 0, 0, .int 3, false),
  (287, .iadd, 64, 0, 0, .null, false)]
def q_L_law_2 : List mm_N := [(288, .iaload, 65, 0, 0, .null, false),
  (289, .invokevirtual 18, 66, 53, 4, .null, false),
  (292, .aload_n 2, 67, 2, 0, .null, false),
  (293, .aload_n 0, 68, 0, 0, .null, false),
  (294, .iload_n 3, 69, 3, 0, .null, false),
  (295, .iconst 1, 70, 0, 0, .int 1, false),
  (296, .iadd, 71, 0, 0, .null, false),
  (297, .iaload, 72, 0, 0, .null, false),
  (298, .aload_n 0, 73, 0, 0, .null, false),
  (299, .iload_n 3, 74, 3, 0, .null, false),
  (300, .iconst 2, 75, 0, 0, .int 2, false),
  (301, .iadd, 76, 0, 0, .null, false),
  (302, .iaload, 77, 0, 0, .null, false),
  (303, .aload_n 0, 78, 0, 0, .null, false),
  (304, .iload_n 3, 79, 3, 0, .null, false),
  (305, .iconst 3, 80, 0, 0, .int 3, false),
  (306, .iadd, 81, 0, 0, .null, false),
  (307, .iaload, 82, 0, 0, .null, false),
  (308, .invokevirtual 22, 83, 125, 4, .null, false),
  (311, .if_icmp .eq 1196, 84, 1001, 0, .null, false),
  (314, .iconst 0, 85, 0, 0, .int 0, false),
  (315, .ireturn, 0, 0, 0, .null, false),
  (316, .aload_n 1, 87, 1, 0, .null, false),
  (317, .aload_n 0, 88, 0, 0, .null, false),
  (318, .iload_n 3, 89, 3, 0, .null, false),
  (319, .iconst 1, 90, 0, 0, .int 1, false),
  (320, .iadd, 91, 0, 0, .null, false),
  (321, .iaload, 92, 0, 0, .null, false),
  (322, .aload_n 0, 93, 0, 0, .null, false),
  (323, .iload_n 3, 94, 3, 0, .null, false),
  (324, .iconst 2, 95, 0, 0, .int 2, false),
  (325, .iadd, 96, 0, 0, .null, false)]
def q_L_law_3 : List mm_N := [(326, .iaload, 97, 0, 0, .null, false),
  (327, .invokevirtual 23, 98, 54, 3, .null, false),
  (330, .aload_n 2, 99, 2, 0, .null, false),
  (331, .aload_n 0, 100, 0, 0, .null, false),
  (332, .iload_n 3, 101, 3, 0, .null, false),
  (333, .iconst 1, 102, 0, 0, .int 1, false),
  (334, .iadd, 103, 0, 0, .null, false),
  (335, .iaload, 104, 0, 0, .null, false),
  (336, .aload_n 0, 105, 0, 0, .null, false),
  (337, .iload_n 3, 106, 3, 0, .null, false),
  (338, .iconst 2, 107, 0, 0, .int 2, false),
  (339, .iadd, 108, 0, 0, .null, false),
  (340, .iaload, 109, 0, 0, .null, false),
  (341, .invokevirtual 26, 110, 126, 3, .null, false),
  (344, .if_icmp .eq 1163, 111, 1001, 0, .null, false),
  (347, .iconst 0, 112, 0, 0, .int 0, false),
  (348, .ireturn, 0, 0, 0, .null, false),
  (349, .aload_n 1, 114, 1, 0, .null, false),
  (350, .aload_n 0, 115, 0, 0, .null, false),
  (351, .iload_n 3, 116, 3, 0, .null, false),
  (352, .iconst 1, 117, 0, 0, .int 1, false),
  (353, .iadd, 118, 0, 0, .null, false),
  (354, .iaload, 119, 0, 0, .null, false),
  (355, .invokevirtual 27, 120, 55, 2, .null, false),
  (358, .aload_n 2, 121, 2, 0, .null, false),
  (359, .aload_n 0, 122, 0, 0, .null, false),
  (360, .iload_n 3, 123, 3, 0, .null, false),
  (361, .iconst 1, 124, 0, 0, .int 1, false),
  (362, .iadd, 125, 0, 0, .null, false),
  (363, .iaload, 126, 0, 0, .null, false),
  (364, .invokevirtual 31, 127, 127, 2, .null, false),
  (367, .if_icmp .eq 1140, 128, 1001, 0, .null, false)]
def q_L_law_4 : List mm_N := [(370, .iconst 0, 129, 0, 0, .int 0, false),
  (371, .ireturn, 0, 0, 0, .null, false),
  (372, .aload_n 1, 131, 1, 0, .null, false),
  (373, .aload_n 0, 132, 0, 0, .null, false),
  (374, .iload_n 3, 133, 3, 0, .null, false),
  (375, .iconst 1, 134, 0, 0, .int 1, false),
  (376, .iadd, 135, 0, 0, .null, false),
  (377, .iaload, 136, 0, 0, .null, false),
  (378, .aload_n 0, 137, 0, 0, .null, false),
  (379, .iload_n 3, 138, 3, 0, .null, false),
  (380, .iconst 2, 139, 0, 0, .int 2, false),
  (381, .iadd, 140, 0, 0, .null, false),
  (382, .iaload, 141, 0, 0, .null, false),
  (383, .aload_n 0, 142, 0, 0, .null, false),
  (384, .iload_n 3, 143, 3, 0, .null, false),
  (385, .iconst 3, 144, 0, 0, .int 3, false),
  (386, .iadd, 145, 0, 0, .null, false),
  (387, .iaload, 146, 0, 0, .null, false),
  (388, .aload_n 0, 147, 0, 0, .null, false),
  (389, .iload_n 3, 148, 3, 0, .null, false),
  (390, .iconst 4, 149, 0, 0, .int 4, false),
  (391, .iadd, 150, 0, 0, .null, false),
  (392, .iaload, 151, 0, 0, .null, false),
  (393, .aload_n 0, 152, 0, 0, .null, false),
  (394, .iload_n 3, 153, 3, 0, .null, false),
  (395, .iconst 5, 154, 0, 0, .int 5, false),
  (396, .iadd, 155, 0, 0, .null, false),
  (397, .iaload, 156, 0, 0, .null, false),
  (398, .invokevirtual 32, 157, 56, 6, .null, false),
  (401, .aload_n 2, 158, 2, 0, .null, false),
  (402, .aload_n 0, 159, 0, 0, .null, false),
  (403, .iload_n 3, 160, 3, 0, .null, false)]
def q_L_law_5 : List mm_N := [(404, .iconst 1, 161, 0, 0, .int 1, false),
  (405, .iadd, 162, 0, 0, .null, false),
  (406, .iaload, 163, 0, 0, .null, false),
  (407, .aload_n 0, 164, 0, 0, .null, false),
  (408, .iload_n 3, 165, 3, 0, .null, false),
  (409, .iconst 2, 166, 0, 0, .int 2, false),
  (410, .iadd, 167, 0, 0, .null, false),
  (411, .iaload, 168, 0, 0, .null, false),
  (412, .aload_n 0, 169, 0, 0, .null, false),
  (413, .iload_n 3, 170, 3, 0, .null, false),
  (414, .iconst 3, 171, 0, 0, .int 3, false),
  (415, .iadd, 172, 0, 0, .null, false),
  (416, .iaload, 173, 0, 0, .null, false),
  (417, .aload_n 0, 174, 0, 0, .null, false),
  (418, .iload_n 3, 175, 3, 0, .null, false),
  (419, .iconst 4, 176, 0, 0, .int 4, false),
  (420, .iadd, 177, 0, 0, .null, false),
  (421, .iaload, 178, 0, 0, .null, false),
  (422, .aload_n 0, 179, 0, 0, .null, false),
  (423, .iload_n 3, 180, 3, 0, .null, false),
  (424, .iconst 5, 181, 0, 0, .int 5, false),
  (425, .iadd, 182, 0, 0, .null, false),
  (426, .iaload, 183, 0, 0, .null, false),
  (427, .invokevirtual 36, 184, 129, 6, .null, false),
  (430, .if_icmp .eq 1077, 185, 1001, 0, .null, false),
  (433, .iconst 0, 186, 0, 0, .int 0, false),
  (434, .ireturn, 0, 0, 0, .null, false),
  (435, .aload_n 1, 188, 1, 0, .null, false),
  (436, .aload_n 0, 189, 0, 0, .null, false),
  (437, .iload_n 3, 190, 3, 0, .null, false),
  (438, .iconst 1, 191, 0, 0, .int 1, false),
  (439, .iadd, 192, 0, 0, .null, false)]
def q_L_law_6 : List mm_N := [(440, .iaload, 193, 0, 0, .null, false),
  (441, .invokevirtual 37, 194, 57, 2, .null, false),
  (444, .aload_n 2, 195, 2, 0, .null, false),
  (445, .aload_n 0, 196, 0, 0, .null, false),
  (446, .iload_n 3, 197, 3, 0, .null, false),
  (447, .iconst 1, 198, 0, 0, .int 1, false),
  (448, .iadd, 199, 0, 0, .null, false),
  (449, .iaload, 200, 0, 0, .null, false),
  (450, .invokevirtual 40, 201, 130, 2, .null, false),
  (453, .if_icmp .eq 1054, 202, 1001, 0, .null, false),
  (456, .iconst 0, 203, 0, 0, .int 0, false),
  (457, .ireturn, 0, 0, 0, .null, false),
  (458, .aload_n 1, 205, 1, 0, .null, false),
  (459, .aload_n 0, 206, 0, 0, .null, false),
  (460, .iload_n 3, 207, 3, 0, .null, false),
  (461, .iconst 1, 208, 0, 0, .int 1, false),
  (462, .iadd, 209, 0, 0, .null, false),
  (463, .iaload, 210, 0, 0, .null, false),
  (464, .aload_n 0, 211, 0, 0, .null, false),
  (465, .iload_n 3, 212, 3, 0, .null, false),
  (466, .iconst 2, 213, 0, 0, .int 2, false),
  (467, .iadd, 214, 0, 0, .null, false),
  (468, .iaload, 215, 0, 0, .null, false),
  (469, .invokevirtual 41, 216, 58, 3, .null, false),
  (472, .aload_n 2, 217, 2, 0, .null, false),
  (473, .aload_n 0, 218, 0, 0, .null, false),
  (474, .iload_n 3, 219, 3, 0, .null, false),
  (475, .iconst 1, 220, 0, 0, .int 1, false),
  (476, .iadd, 221, 0, 0, .null, false),
  (477, .iaload, 222, 0, 0, .null, false),
  (478, .aload_n 0, 223, 0, 0, .null, false),
  (479, .iload_n 3, 224, 3, 0, .null, false)]
def q_L_law_7 : List mm_N := [(480, .iconst 2, 225, 0, 0, .int 2, false),
  (481, .iadd, 226, 0, 0, .null, false),
  (482, .iaload, 227, 0, 0, .null, false),
  (483, .invokevirtual 44, 228, 131, 3, .null, false),
  (486, .if_icmp .eq 1021, 229, 1001, 0, .null, false),
  (489, .iconst 0, 230, 0, 0, .int 0, false),
  (490, .ireturn, 0, 0, 0, .null, false),
  (491, .aload_n 1, 232, 1, 0, .null, false),
  (492, .aload_n 0, 233, 0, 0, .null, false),
  (493, .iload_n 3, 234, 3, 0, .null, false),
  (494, .iconst 1, 235, 0, 0, .int 1, false),
  (495, .iadd, 236, 0, 0, .null, false),
  (496, .iaload, 237, 0, 0, .null, false),
  (497, .aload_n 0, 238, 0, 0, .null, false),
  (498, .iload_n 3, 239, 3, 0, .null, false),
  (499, .iconst 2, 240, 0, 0, .int 2, false),
  (500, .iadd, 241, 0, 0, .null, false),
  (501, .iaload, 242, 0, 0, .null, false),
  (502, .aload_n 0, 243, 0, 0, .null, false),
  (503, .iload_n 3, 244, 3, 0, .null, false),
  (504, .iconst 3, 245, 0, 0, .int 3, false),
  (505, .iadd, 246, 0, 0, .null, false),
  (506, .iaload, 247, 0, 0, .null, false),
  (507, .invokevirtual 45, 248, 59, 4, .null, false),
  (510, .aload_n 2, 249, 2, 0, .null, false),
  (511, .aload_n 0, 250, 0, 0, .null, false),
  (512, .iload_n 3, 251, 3, 0, .null, false),
  (513, .iconst 1, 252, 0, 0, .int 1, false),
  (514, .iadd, 253, 0, 0, .null, false),
  (515, .iaload, 254, 0, 0, .null, false),
  (516, .aload_n 0, 255, 0, 0, .null, false),
  (517, .iload_n 3, 256, 3, 0, .null, false)]
def q_L_law_8 : List mm_N := [(518, .iconst 2, 257, 0, 0, .int 2, false),
  (519, .iadd, 258, 0, 0, .null, false),
  (520, .iaload, 259, 0, 0, .null, false),
  (521, .aload_n 0, 260, 0, 0, .null, false),
  (522, .iload_n 3, 261, 3, 0, .null, false),
  (523, .iconst 3, 262, 0, 0, .int 3, false),
  (524, .iadd, 263, 0, 0, .null, false),
  (525, .iaload, 264, 0, 0, .null, false),
  (526, .invokevirtual 48, 265, 132, 4, .null, false),
  (529, .if_icmp .eq 978, 266, 1001, 0, .null, false),
  (532, .iconst 0, 267, 0, 0, .int 0, false),
  (533, .ireturn, 0, 0, 0, .null, false),
  (534, .aload_n 1, 269, 1, 0, .null, false),
  (535, .aload_n 0, 270, 0, 0, .null, false),
  (536, .iload_n 3, 271, 3, 0, .null, false),
  (537, .iconst 1, 272, 0, 0, .int 1, false),
  (538, .iadd, 273, 0, 0, .null, false),
  (539, .iaload, 274, 0, 0, .null, false),
  (540, .invokevirtual 49, 275, 60, 2, .null, false),
  (543, .aload_n 2, 276, 2, 0, .null, false),
  (544, .aload_n 0, 277, 0, 0, .null, false),
  (545, .iload_n 3, 278, 3, 0, .null, false),
  (546, .iconst 1, 279, 0, 0, .int 1, false),
  (547, .iadd, 280, 0, 0, .null, false),
  (548, .iaload, 281, 0, 0, .null, false),
  (549, .invokevirtual 52, 282, 140, 2, .null, false),
  (552, .if_icmp .eq 955, 283, 1001, 0, .null, false),
  (555, .iconst 0, 284, 0, 0, .int 0, false),
  (556, .ireturn, 0, 0, 0, .null, false),
  (557, .aload_n 1, 286, 1, 0, .null, false),
  (558, .aload_n 0, 287, 0, 0, .null, false),
  (559, .iload_n 3, 288, 3, 0, .null, false)]
def q_L_law_9 : List mm_N := [(560, .iconst 1, 289, 0, 0, .int 1, false),
  (561, .iadd, 290, 0, 0, .null, false),
  (562, .iaload, 291, 0, 0, .null, false),
  (563, .invokevirtual 53, 292, 61, 2, .null, false),
  (566, .aload_n 2, 293, 2, 0, .null, false),
  (567, .aload_n 0, 294, 0, 0, .null, false),
  (568, .iload_n 3, 295, 3, 0, .null, false),
  (569, .iconst 1, 296, 0, 0, .int 1, false),
  (570, .iadd, 297, 0, 0, .null, false),
  (571, .iaload, 298, 0, 0, .null, false),
  (572, .invokevirtual 56, 299, 142, 2, .null, false),
  (575, .if_icmp .eq 932, 300, 1001, 0, .null, false),
  (578, .iconst 0, 301, 0, 0, .int 0, false),
  (579, .ireturn, 0, 0, 0, .null, false),
  (580, .aload_n 1, 303, 1, 0, .null, false),
  (581, .aload_n 0, 304, 0, 0, .null, false),
  (582, .iload_n 3, 305, 3, 0, .null, false),
  (583, .iconst 1, 306, 0, 0, .int 1, false),
  (584, .iadd, 307, 0, 0, .null, false),
  (585, .iaload, 308, 0, 0, .null, false),
  (586, .aload_n 0, 309, 0, 0, .null, false),
  (587, .iload_n 3, 310, 3, 0, .null, false),
  (588, .iconst 2, 311, 0, 0, .int 2, false),
  (589, .iadd, 312, 0, 0, .null, false),
  (590, .iaload, 313, 0, 0, .null, false),
  (591, .invokevirtual 57, 314, 62, 3, .null, false),
  (594, .aload_n 2, 315, 2, 0, .null, false),
  (595, .aload_n 0, 316, 0, 0, .null, false),
  (596, .iload_n 3, 317, 3, 0, .null, false),
  (597, .iconst 1, 318, 0, 0, .int 1, false),
  (598, .iadd, 319, 0, 0, .null, false),
  (599, .iaload, 320, 0, 0, .null, false)]
def q_L_law_10 : List mm_N := [(600, .aload_n 0, 321, 0, 0, .null, false),
  (601, .iload_n 3, 322, 3, 0, .null, false),
  (602, .iconst 2, 323, 0, 0, .int 2, false),
  (603, .iadd, 324, 0, 0, .null, false),
  (604, .iaload, 325, 0, 0, .null, false),
  (605, .invokevirtual 60, 326, 147, 3, .null, false),
  (608, .if_icmp .eq 899, 327, 1001, 0, .null, false),
  (611, .iconst 0, 328, 0, 0, .int 0, false),
  (612, .ireturn, 0, 0, 0, .null, false),
  (613, .aload_n 1, 330, 1, 0, .null, false),
  (614, .aload_n 0, 331, 0, 0, .null, false),
  (615, .iload_n 3, 332, 3, 0, .null, false),
  (616, .iconst 1, 333, 0, 0, .int 1, false),
  (617, .iadd, 334, 0, 0, .null, false),
  (618, .iaload, 335, 0, 0, .null, false),
  (619, .aload_n 0, 336, 0, 0, .null, false),
  (620, .iload_n 3, 337, 3, 0, .null, false),
  (621, .iconst 2, 338, 0, 0, .int 2, false),
  (622, .iadd, 339, 0, 0, .null, false),
  (623, .iaload, 340, 0, 0, .null, false),
  (624, .invokevirtual 61, 341, 63, 3, .null, false),
  (627, .aload_n 2, 342, 2, 0, .null, false),
  (628, .aload_n 0, 343, 0, 0, .null, false),
  (629, .iload_n 3, 344, 3, 0, .null, false),
  (630, .iconst 1, 345, 0, 0, .int 1, false),
  (631, .iadd, 346, 0, 0, .null, false),
  (632, .iaload, 347, 0, 0, .null, false),
  (633, .aload_n 0, 348, 0, 0, .null, false),
  (634, .iload_n 3, 349, 3, 0, .null, false),
  (635, .iconst 2, 350, 0, 0, .int 2, false),
  (636, .iadd, 351, 0, 0, .null, false),
  (637, .iaload, 352, 0, 0, .null, false)]
def q_L_law_11 : List mm_N := [(638, .invokevirtual 64, 353, 151, 3, .null, false),
  (641, .if_icmp .eq 866, 354, 1001, 0, .null, false),
  (644, .iconst 0, 355, 0, 0, .int 0, false),
  (645, .ireturn, 0, 0, 0, .null, false),
  (646, .aload_n 1, 357, 1, 0, .null, false),
  (647, .aload_n 0, 358, 0, 0, .null, false),
  (648, .iload_n 3, 359, 3, 0, .null, false),
  (649, .iconst 1, 360, 0, 0, .int 1, false),
  (650, .iadd, 361, 0, 0, .null, false),
  (651, .iaload, 362, 0, 0, .null, false),
  (652, .aload_n 0, 363, 0, 0, .null, false),
  (653, .iload_n 3, 364, 3, 0, .null, false),
  (654, .iconst 2, 365, 0, 0, .int 2, false),
  (655, .iadd, 366, 0, 0, .null, false),
  (656, .iaload, 367, 0, 0, .null, false),
  (657, .invokevirtual 65, 368, 64, 3, .null, false),
  (660, .aload_n 2, 369, 2, 0, .null, false),
  (661, .aload_n 0, 370, 0, 0, .null, false),
  (662, .iload_n 3, 371, 3, 0, .null, false),
  (663, .iconst 1, 372, 0, 0, .int 1, false),
  (664, .iadd, 373, 0, 0, .null, false),
  (665, .iaload, 374, 0, 0, .null, false),
  (666, .aload_n 0, 375, 0, 0, .null, false),
  (667, .iload_n 3, 376, 3, 0, .null, false),
  (668, .iconst 2, 377, 0, 0, .int 2, false),
  (669, .iadd, 378, 0, 0, .null, false),
  (670, .iaload, 379, 0, 0, .null, false),
  (671, .invokevirtual 68, 380, 152, 3, .null, false),
  (674, .if_icmp .eq 833, 381, 1001, 0, .null, false),
  (677, .iconst 0, 382, 0, 0, .int 0, false),
  (678, .ireturn, 0, 0, 0, .null, false),
  (679, .aload_n 1, 384, 1, 0, .null, false)]
def q_L_law_12 : List mm_N := [(680, .aload_n 0, 385, 0, 0, .null, false),
  (681, .iload_n 3, 386, 3, 0, .null, false),
  (682, .iconst 1, 387, 0, 0, .int 1, false),
  (683, .iadd, 388, 0, 0, .null, false),
  (684, .iaload, 389, 0, 0, .null, false),
  (685, .aload_n 0, 390, 0, 0, .null, false),
  (686, .iload_n 3, 391, 3, 0, .null, false),
  (687, .iconst 2, 392, 0, 0, .int 2, false),
  (688, .iadd, 393, 0, 0, .null, false),
  (689, .iaload, 394, 0, 0, .null, false),
  (690, .invokevirtual 69, 395, 65, 3, .null, false),
  (693, .aload_n 2, 396, 2, 0, .null, false),
  (694, .aload_n 0, 397, 0, 0, .null, false),
  (695, .iload_n 3, 398, 3, 0, .null, false),
  (696, .iconst 1, 399, 0, 0, .int 1, false),
  (697, .iadd, 400, 0, 0, .null, false),
  (698, .iaload, 401, 0, 0, .null, false),
  (699, .aload_n 0, 402, 0, 0, .null, false),
  (700, .iload_n 3, 403, 3, 0, .null, false),
  (701, .iconst 2, 404, 0, 0, .int 2, false),
  (702, .iadd, 405, 0, 0, .null, false),
  (703, .iaload, 406, 0, 0, .null, false),
  (704, .invokevirtual 72, 407, 153, 3, .null, false),
  (707, .if_icmp .eq 800, 408, 1001, 0, .null, false),
  (710, .iconst 0, 409, 0, 0, .int 0, false),
  (711, .ireturn, 0, 0, 0, .null, false),
  (712, .aload_n 1, 411, 1, 0, .null, false),
  (713, .aload_n 0, 412, 0, 0, .null, false),
  (714, .iload_n 3, 413, 3, 0, .null, false),
  (715, .iconst 1, 414, 0, 0, .int 1, false),
  (716, .iadd, 415, 0, 0, .null, false),
  (717, .iaload, 416, 0, 0, .null, false)]
def q_L_law_13 : List mm_N := [(718, .aload_n 0, 417, 0, 0, .null, false),
  (719, .iload_n 3, 418, 3, 0, .null, false),
  (720, .iconst 2, 419, 0, 0, .int 2, false),
  (721, .iadd, 420, 0, 0, .null, false),
  (722, .iaload, 421, 0, 0, .null, false),
  (723, .aload_n 0, 422, 0, 0, .null, false),
  (724, .iload_n 3, 423, 3, 0, .null, false),
  (725, .iconst 3, 424, 0, 0, .int 3, false),
  (726, .iadd, 425, 0, 0, .null, false),
  (727, .iaload, 426, 0, 0, .null, false),
  (728, .aload_n 0, 427, 0, 0, .null, false),
  (729, .iload_n 3, 428, 3, 0, .null, false),
  (730, .iconst 4, 429, 0, 0, .int 4, false),
  (731, .iadd, 430, 0, 0, .null, false),
  (732, .iaload, 431, 0, 0, .null, false),
  (733, .aload_n 0, 432, 0, 0, .null, false),
  (734, .iload_n 3, 433, 3, 0, .null, false),
  (735, .iconst 5, 434, 0, 0, .int 5, false),
  (736, .iadd, 435, 0, 0, .null, false),
  (737, .iaload, 436, 0, 0, .null, false),
  (738, .invokevirtual 73, 437, 66, 6, .null, false),
  (741, .aload_n 2, 438, 2, 0, .null, false),
  (742, .aload_n 0, 439, 0, 0, .null, false),
  (743, .iload_n 3, 440, 3, 0, .null, false),
  (744, .iconst 1, 441, 0, 0, .int 1, false),
  (745, .iadd, 442, 0, 0, .null, false),
  (746, .iaload, 443, 0, 0, .null, false),
  (747, .aload_n 0, 444, 0, 0, .null, false),
  (748, .iload_n 3, 445, 3, 0, .null, false),
  (749, .iconst 2, 446, 0, 0, .int 2, false),
  (750, .iadd, 447, 0, 0, .null, false),
  (751, .iaload, 448, 0, 0, .null, false)]
def q_L_law_14 : List mm_N := [(752, .aload_n 0, 449, 0, 0, .null, false),
  (753, .iload_n 3, 450, 3, 0, .null, false),
  (754, .iconst 3, 451, 0, 0, .int 3, false),
  (755, .iadd, 452, 0, 0, .null, false),
  (756, .iaload, 453, 0, 0, .null, false),
  (757, .aload_n 0, 454, 0, 0, .null, false),
  (758, .iload_n 3, 455, 3, 0, .null, false),
  (759, .iconst 4, 456, 0, 0, .int 4, false),
  (760, .iadd, 457, 0, 0, .null, false),
  (761, .iaload, 458, 0, 0, .null, false),
  (762, .aload_n 0, 459, 0, 0, .null, false),
  (763, .iload_n 3, 460, 3, 0, .null, false),
  (764, .iconst 5, 461, 0, 0, .int 5, false),
  (765, .iadd, 462, 0, 0, .null, false),
  (766, .iaload, 463, 0, 0, .null, false),
  (767, .invokevirtual 76, 464, 154, 6, .null, false),
  (770, .if_icmp .eq 737, 465, 1001, 0, .null, false),
  (773, .iconst 0, 466, 0, 0, .int 0, false),
  (774, .ireturn, 0, 0, 0, .null, false),
  (775, .aload_n 1, 468, 1, 0, .null, false),
  (776, .aload_n 0, 469, 0, 0, .null, false),
  (777, .iload_n 3, 470, 3, 0, .null, false),
  (778, .iconst 1, 471, 0, 0, .int 1, false),
  (779, .iadd, 472, 0, 0, .null, false),
  (780, .iaload, 473, 0, 0, .null, false),
  (781, .invokevirtual 77, 474, 67, 2, .null, false),
  (784, .aload_n 2, 475, 2, 0, .null, false),
  (785, .aload_n 0, 476, 0, 0, .null, false),
  (786, .iload_n 3, 477, 3, 0, .null, false),
  (787, .iconst 1, 478, 0, 0, .int 1, false),
  (788, .iadd, 479, 0, 0, .null, false),
  (789, .iaload, 480, 0, 0, .null, false)]
def q_L_law_15 : List mm_N := [(790, .invokevirtual 80, 481, 155, 2, .null, false),
  (793, .if_icmp .eq 714, 482, 1001, 0, .null, false),
  (796, .iconst 0, 483, 0, 0, .int 0, false),
  (797, .ireturn, 0, 0, 0, .null, false),
  (798, .aload_n 1, 485, 1, 0, .null, false),
  (799, .aload_n 0, 486, 0, 0, .null, false),
  (800, .iload_n 3, 487, 3, 0, .null, false),
  (801, .iconst 1, 488, 0, 0, .int 1, false),
  (802, .iadd, 489, 0, 0, .null, false),
  (803, .iaload, 490, 0, 0, .null, false),
  (804, .invokevirtual 81, 491, 68, 2, .null, false),
  (807, .aload_n 2, 492, 2, 0, .null, false),
  (808, .aload_n 0, 493, 0, 0, .null, false),
  (809, .iload_n 3, 494, 3, 0, .null, false),
  (810, .iconst 1, 495, 0, 0, .int 1, false),
  (811, .iadd, 496, 0, 0, .null, false),
  (812, .iaload, 497, 0, 0, .null, false),
  (813, .invokevirtual 84, 498, 156, 2, .null, false),
  (816, .if_icmp .eq 691, 499, 1001, 0, .null, false),
  (819, .iconst 0, 500, 0, 0, .int 0, false),
  (820, .ireturn, 0, 0, 0, .null, false),
  (821, .aload_n 1, 502, 1, 0, .null, false),
  (822, .aload_n 0, 503, 0, 0, .null, false),
  (823, .iload_n 3, 504, 3, 0, .null, false),
  (824, .iconst 1, 505, 0, 0, .int 1, false),
  (825, .iadd, 506, 0, 0, .null, false),
  (826, .iaload, 507, 0, 0, .null, false),
  (827, .invokevirtual 85, 508, 69, 2, .null, false),
  (830, .aload_n 2, 509, 2, 0, .null, false),
  (831, .aload_n 0, 510, 0, 0, .null, false),
  (832, .iload_n 3, 511, 3, 0, .null, false),
  (833, .iconst 1, 512, 0, 0, .int 1, false)]
def q_L_law_16 : List mm_N := [(834, .iadd, 513, 0, 0, .null, false),
  (835, .iaload, 514, 0, 0, .null, false),
  (836, .invokevirtual 88, 515, 157, 2, .null, false),
  (839, .if_icmp .eq 668, 516, 1001, 0, .null, false),
  (842, .iconst 0, 517, 0, 0, .int 0, false),
  (843, .ireturn, 0, 0, 0, .null, false),
  (844, .aload_n 1, 519, 1, 0, .null, false),
  (845, .aload_n 0, 520, 0, 0, .null, false),
  (846, .iload_n 3, 521, 3, 0, .null, false),
  (847, .iconst 1, 522, 0, 0, .int 1, false),
  (848, .iadd, 523, 0, 0, .null, false),
  (849, .iaload, 524, 0, 0, .null, false),
  (850, .invokevirtual 89, 525, 70, 2, .null, false),
  (853, .aload_n 2, 526, 2, 0, .null, false),
  (854, .aload_n 0, 527, 0, 0, .null, false),
  (855, .iload_n 3, 528, 3, 0, .null, false),
  (856, .iconst 1, 529, 0, 0, .int 1, false),
  (857, .iadd, 530, 0, 0, .null, false),
  (858, .iaload, 531, 0, 0, .null, false),
  (859, .invokevirtual 92, 532, 162, 2, .null, false),
  (862, .if_icmp .eq 645, 533, 1001, 0, .null, false),
  (865, .iconst 0, 534, 0, 0, .int 0, false),
  (866, .ireturn, 0, 0, 0, .null, false),
  (867, .aload_n 1, 536, 1, 0, .null, false),
  (868, .invokevirtual 93, 537, 71, 1, .null, false),
  (871, .aload_n 2, 538, 2, 0, .null, false),
  (872, .invokevirtual 97, 539, 166, 1, .null, false),
  (875, .if_icmp .eq 632, 540, 1001, 0, .null, false),
  (878, .iconst 0, 541, 0, 0, .int 0, false),
  (879, .ireturn, 0, 0, 0, .null, false),
  (880, .aload_n 1, 543, 1, 0, .null, false),
  (881, .aload_n 0, 544, 0, 0, .null, false)]
def q_L_law_17 : List mm_N := [(882, .iload_n 3, 545, 3, 0, .null, false),
  (883, .iconst 1, 546, 0, 0, .int 1, false),
  (884, .iadd, 547, 0, 0, .null, false),
  (885, .iaload, 548, 0, 0, .null, false),
  (886, .invokevirtual 98, 549, 72, 2, .null, false),
  (889, .aload_n 2, 550, 2, 0, .null, false),
  (890, .aload_n 0, 551, 0, 0, .null, false),
  (891, .iload_n 3, 552, 3, 0, .null, false),
  (892, .iconst 1, 553, 0, 0, .int 1, false),
  (893, .iadd, 554, 0, 0, .null, false),
  (894, .iaload, 555, 0, 0, .null, false),
  (895, .invokevirtual 101, 556, 167, 2, .null, false),
  (898, .if_icmp .eq 609, 557, 1001, 0, .null, false),
  (901, .iconst 0, 558, 0, 0, .int 0, false),
  (902, .ireturn, 0, 0, 0, .null, false),
  (903, .aload_n 1, 560, 1, 0, .null, false),
  (904, .invokevirtual 102, 561, 73, 1, .null, false),
  (907, .aload_n 2, 562, 2, 0, .null, false),
  (908, .invokevirtual 105, 563, 169, 1, .null, false),
  (911, .if_icmp .eq 596, 564, 1001, 0, .null, false),
  (914, .iconst 0, 565, 0, 0, .int 0, false),
  (915, .ireturn, 0, 0, 0, .null, false),
  (916, .aload_n 1, 567, 1, 0, .null, false),
  (917, .aload_n 0, 568, 0, 0, .null, false),
  (918, .iload_n 3, 569, 3, 0, .null, false),
  (919, .iconst 1, 570, 0, 0, .int 1, false),
  (920, .iadd, 571, 0, 0, .null, false),
  (921, .iaload, 572, 0, 0, .null, false),
  (922, .invokevirtual 106, 573, 74, 2, .null, false),
  (925, .aload_n 2, 574, 2, 0, .null, false),
  (926, .aload_n 0, 575, 0, 0, .null, false),
  (927, .iload_n 3, 576, 3, 0, .null, false)]
def q_L_law_18 : List mm_N := [(928, .iconst 1, 577, 0, 0, .int 1, false),
  (929, .iadd, 578, 0, 0, .null, false),
  (930, .iaload, 579, 0, 0, .null, false),
  (931, .invokevirtual 109, 580, 170, 2, .null, false),
  (934, .if_icmp .eq 573, 581, 1001, 0, .null, false),
  (937, .iconst 0, 582, 0, 0, .int 0, false),
  (938, .ireturn, 0, 0, 0, .null, false),
  (939, .aload_n 1, 584, 1, 0, .null, false),
  (940, .aload_n 0, 585, 0, 0, .null, false),
  (941, .iload_n 3, 586, 3, 0, .null, false),
  (942, .iconst 1, 587, 0, 0, .int 1, false),
  (943, .iadd, 588, 0, 0, .null, false),
  (944, .iaload, 589, 0, 0, .null, false),
  (945, .invokevirtual 110, 590, 75, 2, .null, false),
  (948, .aload_n 2, 591, 2, 0, .null, false),
  (949, .aload_n 0, 592, 0, 0, .null, false),
  (950, .iload_n 3, 593, 3, 0, .null, false),
  (951, .iconst 1, 594, 0, 0, .int 1, false),
  (952, .iadd, 595, 0, 0, .null, false),
  (953, .iaload, 596, 0, 0, .null, false),
  (954, .invokevirtual 113, 597, 171, 2, .null, false),
  (957, .if_icmp .eq 550, 598, 1001, 0, .null, false),
  (960, .iconst 0, 599, 0, 0, .int 0, false),
  (961, .ireturn, 0, 0, 0, .null, false),
  (962, .aload_n 1, 601, 1, 0, .null, false),
  (963, .aload_n 0, 602, 0, 0, .null, false),
  (964, .iload_n 3, 603, 3, 0, .null, false),
  (965, .iconst 1, 604, 0, 0, .int 1, false),
  (966, .iadd, 605, 0, 0, .null, false),
  (967, .iaload, 606, 0, 0, .null, false),
  (968, .invokevirtual 114, 607, 76, 2, .null, false),
  (971, .aload_n 2, 608, 2, 0, .null, false)]
def q_L_law_19 : List mm_N := [(972, .aload_n 0, 609, 0, 0, .null, false),
  (973, .iload_n 3, 610, 3, 0, .null, false),
  (974, .iconst 1, 611, 0, 0, .int 1, false),
  (975, .iadd, 612, 0, 0, .null, false),
  (976, .iaload, 613, 0, 0, .null, false),
  (977, .invokevirtual 117, 614, 173, 2, .null, false),
  (980, .if_icmp .eq 527, 615, 1001, 0, .null, false),
  (983, .iconst 0, 616, 0, 0, .int 0, false),
  (984, .ireturn, 0, 0, 0, .null, false),
  (985, .aload_n 1, 618, 1, 0, .null, false),
  (986, .aload_n 0, 619, 0, 0, .null, false),
  (987, .iload_n 3, 620, 3, 0, .null, false),
  (988, .iconst 1, 621, 0, 0, .int 1, false),
  (989, .iadd, 622, 0, 0, .null, false),
  (990, .iaload, 623, 0, 0, .null, false),
  (991, .invokevirtual 118, 624, 77, 2, .null, false),
  (994, .aload_n 2, 625, 2, 0, .null, false),
  (995, .aload_n 0, 626, 0, 0, .null, false),
  (996, .iload_n 3, 627, 3, 0, .null, false),
  (997, .iconst 1, 628, 0, 0, .int 1, false),
  (998, .iadd, 629, 0, 0, .null, false),
  (999, .iaload, 630, 0, 0, .null, false),
  (1000, .invokevirtual 121, 631, 174, 2, .null, false),
  (1003, .if_icmp .eq 504, 632, 1001, 0, .null, false),
  (1006, .iconst 0, 633, 0, 0, .int 0, false),
  (1007, .ireturn, 0, 0, 0, .null, false),
  (1008, .aload_n 1, 635, 1, 0, .null, false),
  (1009, .invokevirtual 122, 636, 78, 1, .null, false),
  (1012, .aload_n 2, 637, 2, 0, .null, false),
  (1013, .invokevirtual 125, 638, 175, 1, .null, false),
  (1016, .if_icmp .eq 491, 639, 1001, 0, .null, false),
  (1019, .iconst 0, 640, 0, 0, .int 0, false)]
def q_L_law_20 : List mm_N := [(1020, .ireturn, 0, 0, 0, .null, false),
  (1021, .aload_n 1, 642, 1, 0, .null, false),
  (1022, .aload_n 0, 643, 0, 0, .null, false),
  (1023, .iload_n 3, 644, 3, 0, .null, false),
  (1024, .iconst 1, 645, 0, 0, .int 1, false),
  (1025, .iadd, 646, 0, 0, .null, false),
  (1026, .iaload, 647, 0, 0, .null, false),
  (1027, .aload_n 0, 648, 0, 0, .null, false),
  (1028, .iload_n 3, 649, 3, 0, .null, false),
  (1029, .iconst 2, 650, 0, 0, .int 2, false),
  (1030, .iadd, 651, 0, 0, .null, false),
  (1031, .iaload, 652, 0, 0, .null, false),
  (1032, .invokevirtual 126, 653, 79, 3, .null, false),
  (1035, .aload_n 2, 654, 2, 0, .null, false),
  (1036, .aload_n 0, 655, 0, 0, .null, false),
  (1037, .iload_n 3, 656, 3, 0, .null, false),
  (1038, .iconst 1, 657, 0, 0, .int 1, false),
  (1039, .iadd, 658, 0, 0, .null, false),
  (1040, .iaload, 659, 0, 0, .null, false),
  (1041, .aload_n 0, 660, 0, 0, .null, false),
  (1042, .iload_n 3, 661, 3, 0, .null, false),
  (1043, .iconst 2, 662, 0, 0, .int 2, false),
  (1044, .iadd, 663, 0, 0, .null, false),
  (1045, .iaload, 664, 0, 0, .null, false),
  (1046, .invokevirtual 129, 665, 180, 3, .null, false),
  (1049, .if_icmp .eq 458, 666, 1001, 0, .null, false),
  (1052, .iconst 0, 667, 0, 0, .int 0, false),
  (1053, .ireturn, 0, 0, 0, .null, false),
  (1054, .aload_n 1, 669, 1, 0, .null, false),
  (1055, .aload_n 0, 670, 0, 0, .null, false),
  (1056, .iload_n 3, 671, 3, 0, .null, false),
  (1057, .iconst 1, 672, 0, 0, .int 1, false)]
def q_L_law_21 : List mm_N := [(1058, .iadd, 673, 0, 0, .null, false),
  (1059, .iaload, 674, 0, 0, .null, false),
  (1060, .aload_n 0, 675, 0, 0, .null, false),
  (1061, .iload_n 3, 676, 3, 0, .null, false),
  (1062, .iconst 2, 677, 0, 0, .int 2, false),
  (1063, .iadd, 678, 0, 0, .null, false),
  (1064, .iaload, 679, 0, 0, .null, false),
  (1065, .invokevirtual 130, 680, 80, 3, .null, false),
  (1068, .aload_n 2, 681, 2, 0, .null, false),
  (1069, .aload_n 0, 682, 0, 0, .null, false),
  (1070, .iload_n 3, 683, 3, 0, .null, false),
  (1071, .iconst 1, 684, 0, 0, .int 1, false),
  (1072, .iadd, 685, 0, 0, .null, false),
  (1073, .iaload, 686, 0, 0, .null, false),
  (1074, .aload_n 0, 687, 0, 0, .null, false),
  (1075, .iload_n 3, 688, 3, 0, .null, false),
  (1076, .iconst 2, 689, 0, 0, .int 2, false),
  (1077, .iadd, 690, 0, 0, .null, false),
  (1078, .iaload, 691, 0, 0, .null, false),
  (1079, .invokevirtual 133, 692, 181, 3, .null, false),
  (1082, .if_icmp .eq 425, 693, 1001, 0, .null, false),
  (1085, .iconst 0, 694, 0, 0, .int 0, false),
  (1086, .ireturn, 0, 0, 0, .null, false),
  (1087, .aload_n 1, 696, 1, 0, .null, false),
  (1088, .aload_n 0, 697, 0, 0, .null, false),
  (1089, .iload_n 3, 698, 3, 0, .null, false),
  (1090, .iconst 1, 699, 0, 0, .int 1, false),
  (1091, .iadd, 700, 0, 0, .null, false),
  (1092, .iaload, 701, 0, 0, .null, false),
  (1093, .invokevirtual 134, 702, 81, 2, .null, false),
  (1096, .aload_n 2, 703, 2, 0, .null, false),
  (1097, .aload_n 0, 704, 0, 0, .null, false)]
def q_L_law_22 : List mm_N := [(1098, .iload_n 3, 705, 3, 0, .null, false),
  (1099, .iconst 1, 706, 0, 0, .int 1, false),
  (1100, .iadd, 707, 0, 0, .null, false),
  (1101, .iaload, 708, 0, 0, .null, false),
  (1102, .invokevirtual 137, 709, 182, 2, .null, false),
  (1105, .if_icmp .eq 402, 710, 1001, 0, .null, false),
  (1108, .iconst 0, 711, 0, 0, .int 0, false),
  (1109, .ireturn, 0, 0, 0, .null, false),
  (1110, .aload_n 1, 713, 1, 0, .null, false),
  (1111, .aload_n 0, 714, 0, 0, .null, false),
  (1112, .iload_n 3, 715, 3, 0, .null, false),
  (1113, .iconst 1, 716, 0, 0, .int 1, false),
  (1114, .iadd, 717, 0, 0, .null, false),
  (1115, .iaload, 718, 0, 0, .null, false),
  (1116, .invokevirtual 138, 719, 82, 2, .null, false),
  (1119, .aload_n 2, 720, 2, 0, .null, false),
  (1120, .aload_n 0, 721, 0, 0, .null, false),
  (1121, .iload_n 3, 722, 3, 0, .null, false),
  (1122, .iconst 1, 723, 0, 0, .int 1, false),
  (1123, .iadd, 724, 0, 0, .null, false),
  (1124, .iaload, 725, 0, 0, .null, false),
  (1125, .invokevirtual 141, 726, 184, 2, .null, false),
  (1128, .if_icmp .eq 379, 727, 1001, 0, .null, false),
  (1131, .iconst 0, 728, 0, 0, .int 0, false),
  (1132, .ireturn, 0, 0, 0, .null, false),
  (1133, .aload_n 1, 730, 1, 0, .null, false),
  (1134, .invokevirtual 142, 731, 83, 1, .null, false),
  (1137, .aload_n 2, 732, 2, 0, .null, false),
  (1138, .invokevirtual 145, 733, 185, 1, .null, false),
  (1141, .if_icmp .eq 366, 734, 1001, 0, .null, false),
  (1144, .iconst 0, 735, 0, 0, .int 0, false),
  (1145, .ireturn, 0, 0, 0, .null, false)]
def q_L_law_23 : List mm_N := [(1146, .aload_n 1, 737, 1, 0, .null, false),
  (1147, .aload_n 0, 738, 0, 0, .null, false),
  (1148, .iload_n 3, 739, 3, 0, .null, false),
  (1149, .iconst 1, 740, 0, 0, .int 1, false),
  (1150, .iadd, 741, 0, 0, .null, false),
  (1151, .iaload, 742, 0, 0, .null, false),
  (1152, .aload_n 0, 743, 0, 0, .null, false),
  (1153, .iload_n 3, 744, 3, 0, .null, false),
  (1154, .iconst 2, 745, 0, 0, .int 2, false),
  (1155, .iadd, 746, 0, 0, .null, false),
  (1156, .iaload, 747, 0, 0, .null, false),
  (1157, .invokevirtual 146, 748, 84, 3, .null, false),
  (1160, .aload_n 2, 749, 2, 0, .null, false),
  (1161, .aload_n 0, 750, 0, 0, .null, false),
  (1162, .iload_n 3, 751, 3, 0, .null, false),
  (1163, .iconst 1, 752, 0, 0, .int 1, false),
  (1164, .iadd, 753, 0, 0, .null, false),
  (1165, .iaload, 754, 0, 0, .null, false),
  (1166, .aload_n 0, 755, 0, 0, .null, false),
  (1167, .iload_n 3, 756, 3, 0, .null, false),
  (1168, .iconst 2, 757, 0, 0, .int 2, false),
  (1169, .iadd, 758, 0, 0, .null, false),
  (1170, .iaload, 759, 0, 0, .null, false),
  (1171, .invokevirtual 149, 760, 187, 3, .null, false),
  (1174, .if_icmp .eq 333, 761, 1001, 0, .null, false),
  (1177, .iconst 0, 762, 0, 0, .int 0, false),
  (1178, .ireturn, 0, 0, 0, .null, false),
  (1179, .aload_n 1, 764, 1, 0, .null, false),
  (1180, .aload_n 0, 765, 0, 0, .null, false),
  (1181, .iload_n 3, 766, 3, 0, .null, false),
  (1182, .iconst 1, 767, 0, 0, .int 1, false),
  (1183, .iadd, 768, 0, 0, .null, false)]
def q_L_law_24 : List mm_N := [(1184, .iaload, 769, 0, 0, .null, false),
  (1185, .aload_n 0, 770, 0, 0, .null, false),
  (1186, .iload_n 3, 771, 3, 0, .null, false),
  (1187, .iconst 2, 772, 0, 0, .int 2, false),
  (1188, .iadd, 773, 0, 0, .null, false),
  (1189, .iaload, 774, 0, 0, .null, false),
  (1190, .invokevirtual 150, 775, 85, 3, .null, false),
  (1193, .aload_n 2, 776, 2, 0, .null, false),
  (1194, .aload_n 0, 777, 0, 0, .null, false),
  (1195, .iload_n 3, 778, 3, 0, .null, false),
  (1196, .iconst 1, 779, 0, 0, .int 1, false),
  (1197, .iadd, 780, 0, 0, .null, false),
  (1198, .iaload, 781, 0, 0, .null, false),
  (1199, .aload_n 0, 782, 0, 0, .null, false),
  (1200, .iload_n 3, 783, 3, 0, .null, false),
  (1201, .iconst 2, 784, 0, 0, .int 2, false),
  (1202, .iadd, 785, 0, 0, .null, false),
  (1203, .iaload, 786, 0, 0, .null, false),
  (1204, .invokevirtual 153, 787, 189, 3, .null, false),
  (1207, .if_icmp .eq 300, 788, 1001, 0, .null, false),
  (1210, .iconst 0, 789, 0, 0, .int 0, false),
  (1211, .ireturn, 0, 0, 0, .null, false),
  (1212, .aload_n 1, 791, 1, 0, .null, false),
  (1213, .aload_n 0, 792, 0, 0, .null, false),
  (1214, .iload_n 3, 793, 3, 0, .null, false),
  (1215, .iconst 1, 794, 0, 0, .int 1, false),
  (1216, .iadd, 795, 0, 0, .null, false),
  (1217, .iaload, 796, 0, 0, .null, false),
  (1218, .invokevirtual 154, 797, 86, 2, .null, false),
  (1221, .aload_n 2, 798, 2, 0, .null, false),
  (1222, .aload_n 0, 799, 0, 0, .null, false),
  (1223, .iload_n 3, 800, 3, 0, .null, false)]
def q_L_law_25 : List mm_N := [(1224, .iconst 1, 801, 0, 0, .int 1, false),
  (1225, .iadd, 802, 0, 0, .null, false),
  (1226, .iaload, 803, 0, 0, .null, false),
  (1227, .invokevirtual 157, 804, 190, 2, .null, false),
  (1230, .if_icmp .eq 277, 805, 1001, 0, .null, false),
  (1233, .iconst 0, 806, 0, 0, .int 0, false),
  (1234, .ireturn, 0, 0, 0, .null, false),
  (1235, .aload_n 1, 808, 1, 0, .null, false),
  (1236, .aload_n 0, 809, 0, 0, .null, false),
  (1237, .iload_n 3, 810, 3, 0, .null, false),
  (1238, .iconst 1, 811, 0, 0, .int 1, false),
  (1239, .iadd, 812, 0, 0, .null, false),
  (1240, .iaload, 813, 0, 0, .null, false),
  (1241, .invokevirtual 158, 814, 87, 2, .null, false),
  (1244, .aload_n 2, 815, 2, 0, .null, false),
  (1245, .aload_n 0, 816, 0, 0, .null, false),
  (1246, .iload_n 3, 817, 3, 0, .null, false),
  (1247, .iconst 1, 818, 0, 0, .int 1, false),
  (1248, .iadd, 819, 0, 0, .null, false),
  (1249, .iaload, 820, 0, 0, .null, false),
  (1250, .invokevirtual 161, 821, 191, 2, .null, false),
  (1253, .if_icmp .eq 254, 822, 1001, 0, .null, false),
  (1256, .iconst 0, 823, 0, 0, .int 0, false),
  (1257, .ireturn, 0, 0, 0, .null, false),
  (1258, .aload_n 1, 825, 1, 0, .null, false),
  (1259, .invokevirtual 162, 826, 88, 1, .null, false),
  (1262, .aload_n 2, 827, 2, 0, .null, false),
  (1263, .invokevirtual 165, 828, 193, 1, .null, false),
  (1266, .if_icmp .eq 241, 829, 1001, 0, .null, false),
  (1269, .iconst 0, 830, 0, 0, .int 0, false),
  (1270, .ireturn, 0, 0, 0, .null, false),
  (1271, .aload_n 1, 832, 1, 0, .null, false)]
def q_L_law_26 : List mm_N := [(1272, .aload_n 0, 833, 0, 0, .null, false),
  (1273, .iload_n 3, 834, 3, 0, .null, false),
  (1274, .iconst 1, 835, 0, 0, .int 1, false),
  (1275, .iadd, 836, 0, 0, .null, false),
  (1276, .iaload, 837, 0, 0, .null, false),
  (1277, .aload_n 0, 838, 0, 0, .null, false),
  (1278, .iload_n 3, 839, 3, 0, .null, false),
  (1279, .iconst 2, 840, 0, 0, .int 2, false),
  (1280, .iadd, 841, 0, 0, .null, false),
  (1281, .iaload, 842, 0, 0, .null, false),
  (1282, .invokevirtual 166, 843, 89, 3, .null, false),
  (1285, .aload_n 2, 844, 2, 0, .null, false),
  (1286, .aload_n 0, 845, 0, 0, .null, false),
  (1287, .iload_n 3, 846, 3, 0, .null, false),
  (1288, .iconst 1, 847, 0, 0, .int 1, false),
  (1289, .iadd, 848, 0, 0, .null, false),
  (1290, .iaload, 849, 0, 0, .null, false),
  (1291, .aload_n 0, 850, 0, 0, .null, false),
  (1292, .iload_n 3, 851, 3, 0, .null, false),
  (1293, .iconst 2, 852, 0, 0, .int 2, false),
  (1294, .iadd, 853, 0, 0, .null, false),
  (1295, .iaload, 854, 0, 0, .null, false),
  (1296, .invokevirtual 169, 855, 194, 3, .null, false),
  (1299, .if_icmp .eq 208, 856, 1001, 0, .null, false),
  (1302, .iconst 0, 857, 0, 0, .int 0, false),
  (1303, .ireturn, 0, 0, 0, .null, false),
  (1304, .aload_n 1, 859, 1, 0, .null, false),
  (1305, .aload_n 0, 860, 0, 0, .null, false),
  (1306, .iload_n 3, 861, 3, 0, .null, false),
  (1307, .iconst 1, 862, 0, 0, .int 1, false),
  (1308, .iadd, 863, 0, 0, .null, false),
  (1309, .iaload, 864, 0, 0, .null, false)]
def q_L_law_27 : List mm_N := [(1310, .invokevirtual 170, 865, 90, 2, .null, false),
  (1313, .aload_n 2, 866, 2, 0, .null, false),
  (1314, .aload_n 0, 867, 0, 0, .null, false),
  (1315, .iload_n 3, 868, 3, 0, .null, false),
  (1316, .iconst 1, 869, 0, 0, .int 1, false),
  (1317, .iadd, 870, 0, 0, .null, false),
  (1318, .iaload, 871, 0, 0, .null, false),
  (1319, .invokevirtual 173, 872, 195, 2, .null, false),
  (1322, .if_icmp .eq 185, 873, 1001, 0, .null, false),
  (1325, .iconst 0, 874, 0, 0, .int 0, false),
  (1326, .ireturn, 0, 0, 0, .null, false),
  (1327, .aload_n 1, 876, 1, 0, .null, false),
  (1328, .aload_n 0, 877, 0, 0, .null, false),
  (1329, .iload_n 3, 878, 3, 0, .null, false),
  (1330, .iconst 1, 879, 0, 0, .int 1, false),
  (1331, .iadd, 880, 0, 0, .null, false),
  (1332, .iaload, 881, 0, 0, .null, false),
  (1333, .aload_n 0, 882, 0, 0, .null, false),
  (1334, .iload_n 3, 883, 3, 0, .null, false),
  (1335, .iconst 2, 884, 0, 0, .int 2, false),
  (1336, .iadd, 885, 0, 0, .null, false),
  (1337, .iaload, 886, 0, 0, .null, false),
  (1338, .invokevirtual 174, 887, 91, 3, .null, false),
  (1341, .aload_n 2, 888, 2, 0, .null, false),
  (1342, .aload_n 0, 889, 0, 0, .null, false),
  (1343, .iload_n 3, 890, 3, 0, .null, false),
  (1344, .iconst 1, 891, 0, 0, .int 1, false),
  (1345, .iadd, 892, 0, 0, .null, false),
  (1346, .iaload, 893, 0, 0, .null, false),
  (1347, .aload_n 0, 894, 0, 0, .null, false),
  (1348, .iload_n 3, 895, 3, 0, .null, false),
  (1349, .iconst 2, 896, 0, 0, .int 2, false)]
def q_L_law_28 : List mm_N := [(1350, .iadd, 897, 0, 0, .null, false),
  (1351, .iaload, 898, 0, 0, .null, false),
  (1352, .invokevirtual 177, 899, 196, 3, .null, false),
  (1355, .if_icmp .eq 152, 900, 1001, 0, .null, false),
  (1358, .iconst 0, 901, 0, 0, .int 0, false),
  (1359, .ireturn, 0, 0, 0, .null, false),
  (1360, .aload_n 1, 903, 1, 0, .null, false),
  (1361, .aload_n 0, 904, 0, 0, .null, false),
  (1362, .iload_n 3, 905, 3, 0, .null, false),
  (1363, .iconst 1, 906, 0, 0, .int 1, false),
  (1364, .iadd, 907, 0, 0, .null, false),
  (1365, .iaload, 908, 0, 0, .null, false),
  (1366, .aload_n 0, 909, 0, 0, .null, false),
  (1367, .iload_n 3, 910, 3, 0, .null, false),
  (1368, .iconst 2, 911, 0, 0, .int 2, false),
  (1369, .iadd, 912, 0, 0, .null, false),
  (1370, .iaload, 913, 0, 0, .null, false),
  (1371, .invokevirtual 178, 914, 92, 3, .null, false),
  (1374, .aload_n 2, 915, 2, 0, .null, false),
  (1375, .aload_n 0, 916, 0, 0, .null, false),
  (1376, .iload_n 3, 917, 3, 0, .null, false),
  (1377, .iconst 1, 918, 0, 0, .int 1, false),
  (1378, .iadd, 919, 0, 0, .null, false),
  (1379, .iaload, 920, 0, 0, .null, false),
  (1380, .aload_n 0, 921, 0, 0, .null, false),
  (1381, .iload_n 3, 922, 3, 0, .null, false),
  (1382, .iconst 2, 923, 0, 0, .int 2, false),
  (1383, .iadd, 924, 0, 0, .null, false),
  (1384, .iaload, 925, 0, 0, .null, false),
  (1385, .invokevirtual 181, 926, 199, 3, .null, false),
  (1388, .if_icmp .eq 119, 927, 1001, 0, .null, false),
  (1391, .iconst 0, 928, 0, 0, .int 0, false)]
def q_L_law_29 : List mm_N := [(1392, .ireturn, 0, 0, 0, .null, false),
  (1393, .aload_n 1, 930, 1, 0, .null, false),
  (1394, .invokevirtual 182, 931, 93, 1, .null, false),
  (1397, .aload_n 2, 932, 2, 0, .null, false),
  (1398, .invokevirtual 185, 933, 200, 1, .null, false),
  (1401, .if_icmp .eq 106, 934, 1001, 0, .null, false),
  (1404, .iconst 0, 935, 0, 0, .int 0, false),
  (1405, .ireturn, 0, 0, 0, .null, false),
  (1406, .aload_n 1, 937, 1, 0, .null, false),
  (1407, .invokevirtual 186, 938, 94, 1, .null, false),
  (1410, .aload_n 2, 939, 2, 0, .null, false),
  (1411, .invokevirtual 190, 940, 201, 1, .null, false),
  (1414, .lcmp, 941, 0, 0, .null, false),
  (1415, .ifCond .eq 92, 942, 1001, 0, .null, false),
  (1418, .iconst 0, 943, 0, 0, .int 0, false),
  (1419, .ireturn, 0, 0, 0, .null, false),
  (1420, .aload_n 1, 945, 1, 0, .null, false),
  (1421, .invokevirtual 191, 946, 95, 1, .null, false),
  (1424, .aload_n 2, 947, 2, 0, .null, false),
  (1425, .invokevirtual 194, 948, 202, 1, .null, false),
  (1428, .lcmp, 949, 0, 0, .null, false),
  (1429, .ifCond .eq 78, 950, 1001, 0, .null, false),
  (1432, .iconst 0, 951, 0, 0, .int 0, false),
  (1433, .ireturn, 0, 0, 0, .null, false),
  (1434, .aload_n 1, 953, 1, 0, .null, false),
  (1435, .aload_n 0, 954, 0, 0, .null, false),
  (1436, .iload_n 3, 955, 3, 0, .null, false),
  (1437, .iconst 1, 956, 0, 0, .int 1, false),
  (1438, .iadd, 957, 0, 0, .null, false),
  (1439, .iaload, 958, 0, 0, .null, false),
  (1440, .invokevirtual 195, 959, 96, 2, .null, false),
  (1443, .aload_n 2, 960, 2, 0, .null, false)]
def q_L_law_30 : List mm_N := [(1444, .aload_n 0, 961, 0, 0, .null, false),
  (1445, .iload_n 3, 962, 3, 0, .null, false),
  (1446, .iconst 1, 963, 0, 0, .int 1, false),
  (1447, .iadd, 964, 0, 0, .null, false),
  (1448, .iaload, 965, 0, 0, .null, false),
  (1449, .invokevirtual 198, 966, 204, 2, .null, false),
  (1452, .if_icmp .eq 55, 967, 1001, 0, .null, false),
  (1455, .iconst 0, 968, 0, 0, .int 0, false),
  (1456, .ireturn, 0, 0, 0, .null, false),
  (1457, .aload_n 1, 970, 1, 0, .null, false),
  (1458, .invokevirtual 199, 971, 97, 1, .null, false),
  (1461, .aload_n 2, 972, 2, 0, .null, false),
  (1462, .invokevirtual 202, 973, 205, 1, .null, false),
  (1465, .if_icmp .eq 42, 974, 1001, 0, .null, false),
  (1468, .iconst 0, 975, 0, 0, .int 0, false),
  (1469, .ireturn, 0, 0, 0, .null, false),
  (1470, .aload_n 1, 977, 1, 0, .null, false),
  (1471, .aload_n 0, 978, 0, 0, .null, false),
  (1472, .iload_n 3, 979, 3, 0, .null, false),
  (1473, .iconst 1, 980, 0, 0, .int 1, false),
  (1474, .iadd, 981, 0, 0, .null, false),
  (1475, .iaload, 982, 0, 0, .null, false),
  (1476, .invokevirtual 203, 983, 98, 2, .null, false),
  (1479, .aload_n 2, 984, 2, 0, .null, false),
  (1480, .aload_n 0, 985, 0, 0, .null, false),
  (1481, .iload_n 3, 986, 3, 0, .null, false),
  (1482, .iconst 1, 987, 0, 0, .int 1, false),
  (1483, .iadd, 988, 0, 0, .null, false),
  (1484, .iaload, 989, 0, 0, .null, false),
  (1485, .invokevirtual 206, 990, 206, 2, .null, false),
  (1488, .if_icmp .eq 19, 991, 1001, 0, .null, false),
  (1491, .iconst 0, 992, 0, 0, .int 0, false)]
def q_L_law_31 : List mm_N := [(1492, .ireturn, 0, 0, 0, .null, false),
  (1493, .aload_n 1, 994, 1, 0, .null, false),
  (1494, .invokevirtual 207, 995, 99, 1, .null, false),
  (1497, .aload_n 2, 996, 2, 0, .null, false),
  (1498, .invokevirtual 210, 997, 207, 1, .null, false),
  (1501, .lcmp, 998, 0, 0, .null, false),
  (1502, .ifCond .eq 5, 999, 1001, 0, .null, false),
  (1505, .iconst 0, 1000, 0, 0, .int 0, false),
  (1506, .ireturn, 0, 0, 0, .null, false),
  (1507, .iinc 3 6, 1002, 3, 0, .int 6, true),
  (1510, .goto (-1492), 0, 10, 0, .null, false),
  (1513, .iconst 1, 1004, 0, 0, .int 1, false),
  (1514, .ireturn, 0, 0, 0, .null, false)]
def q_L_law : List (List mm_N) := [q_L_law_0, q_L_law_1, q_L_law_2, q_L_law_3, q_L_law_4, q_L_law_5, q_L_law_6, q_L_law_7, q_L_law_8, q_L_law_9, q_L_law_10, q_L_law_11, q_L_law_12, q_L_law_13, q_L_law_14, q_L_law_15, q_L_law_16, q_L_law_17, q_L_law_18, q_L_law_19, q_L_law_20, q_L_law_21, q_L_law_22, q_L_law_23, q_L_law_24, q_L_law_25, q_L_law_26, q_L_law_27, q_L_law_28, q_L_law_29, q_L_law_30, q_L_law_31]
def mm_code (n : Nat) : List (List mm_N) := (bif Nat.blt n 105 then (bif Nat.blt n 52 then (bif Nat.blt n 26 then (bif Nat.blt n 13 then (bif Nat.blt n 6 then (bif Nat.blt n 3 then (bif Nat.blt n 1 then q_X0_init else (bif Nat.blt n 2 then q_X0_seat else q_X0_forgetCitation)) else (bif Nat.blt n 4 then q_X0_isMovedByOneMore else (bif Nat.blt n 5 then q_X0_isToStand else q_X0_clash))) else (bif Nat.blt n 9 then (bif Nat.blt n 7 then q_X0_mattersTo else (bif Nat.blt n 8 then q_X1_init else q_X1_has)) else (bif Nat.blt n 11 then (bif Nat.blt n 10 then q_X1_everyRuling else q_X1_canBeCited) else (bif Nat.blt n 12 then q_X1_citable else q_X1_add)))) else (bif Nat.blt n 19 then (bif Nat.blt n 16 then (bif Nat.blt n 14 then q_X1_cutTo else (bif Nat.blt n 15 then q_X1_become else q_X1_detail)) else (bif Nat.blt n 17 then q_X1_citations else (bif Nat.blt n 18 then q_X1_dependsOn else q_X1_ofDay))) else (bif Nat.blt n 22 then (bif Nat.blt n 20 then q_X1_othersOfItsDay else (bif Nat.blt n 21 then q_X1_laterThan else q_X1_countOf)) else (bif Nat.blt n 24 then (bif Nat.blt n 23 then q_X1_likeness else q_X1_decide) else (bif Nat.blt n 25 then q_X1_verdictsBy else q_X1_agrees))))) else (bif Nat.blt n 39 then (bif Nat.blt n 32 then (bif Nat.blt n 29 then (bif Nat.blt n 27 then q_X2_init else (bif Nat.blt n 28 then q_X2_read else q_X2_skipBlanks)) else (bif Nat.blt n 30 then q_X2_readItem else (bif Nat.blt n 31 then q_X2_sign else q_X2_letter))) else (bif Nat.blt n 35 then (bif Nat.blt n 33 then q_X2_figure else (bif Nat.blt n 34 then q_X2_readMarks else q_X3_init)) else (bif Nat.blt n 37 then (bif Nat.blt n 36 then q_X3_isMissing else q_X3_has) else (bif Nat.blt n 38 then q_X3_hasRun else q_X3_value)))) else (bif Nat.blt n 45 then (bif Nat.blt n 42 then (bif Nat.blt n 40 then q_X3_swap else (bif Nat.blt n 41 then q_X3_renew else q_X3_remove)) else (bif Nat.blt n 43 then q_X3_sum else (bif Nat.blt n 44 then q_X3_digestFrom else q_X4_init))) else (bif Nat.blt n 48 then (bif Nat.blt n 46 then q_X4_find else (bif Nat.blt n 47 then q_X4_first else q_X4_surelyStanding)) else (bif Nat.blt n 50 then (bif Nat.blt n 49 then q_X4_surelyFalling else q_X4_waysWith) else (bif Nat.blt n 51 then q_X4_meets else q_X5_init)))))) else (bif Nat.blt n 78 then (bif Nat.blt n 65 then (bif Nat.blt n 58 then (bif Nat.blt n 55 then (bif Nat.blt n 53 then q_X5_row else (bif Nat.blt n 54 then q_X5_lay else q_X5_at)) else (bif Nat.blt n 56 then q_X5_tear else (bif Nat.blt n 57 then q_X5_copy else q_X5_mean))) else (bif Nat.blt n 61 then (bif Nat.blt n 59 then q_X5_text else (bif Nat.blt n 60 then q_X5_put else q_X5_fault)) else (bif Nat.blt n 63 then (bif Nat.blt n 62 then q_X5_court else q_X5_ruling) else (bif Nat.blt n 64 then q_X5_mark else q_X5_reverse)))) else (bif Nat.blt n 71 then (bif Nat.blt n 68 then (bif Nat.blt n 66 then q_X5_marks else (bif Nat.blt n 67 then q_X5_file else q_X5_strike)) else (bif Nat.blt n 69 then q_X5_keep else (bif Nat.blt n 70 then q_X5_on else q_X5_due))) else (bif Nat.blt n 74 then (bif Nat.blt n 72 then q_X5_ways else (bif Nat.blt n 73 then q_X5_nth else q_X5_sure)) else (bif Nat.blt n 76 then (bif Nat.blt n 75 then q_X5_odds else q_X5_together) else (bif Nat.blt n 77 then q_X5_till else q_X5_flips))))) else (bif Nat.blt n 91 then (bif Nat.blt n 84 then (bif Nat.blt n 81 then (bif Nat.blt n 79 then q_X5_jam else (bif Nat.blt n 80 then q_X5_fell else q_X5_guard)) else (bif Nat.blt n 82 then q_X5_settle else (bif Nat.blt n 83 then q_X5_matter else q_X5_judge))) else (bif Nat.blt n 87 then (bif Nat.blt n 85 then q_X5_like else (bif Nat.blt n 86 then q_X5_verdict else q_X5_surely)) else (bif Nat.blt n 89 then (bif Nat.blt n 88 then q_X5_freed else q_X5_code) else (bif Nat.blt n 90 then q_X5_kinds else q_X5_forged)))) else (bif Nat.blt n 98 then (bif Nat.blt n 94 then (bif Nat.blt n 92 then q_X5_torn else (bif Nat.blt n 93 then q_X5_lots else q_X5_asked)) else (bif Nat.blt n 96 then (bif Nat.blt n 95 then q_X5_upper else q_X5_lower) else (bif Nat.blt n 97 then q_X5_count else q_X5_finding))) else (bif Nat.blt n 101 then (bif Nat.blt n 99 then q_X5_findings else (bif Nat.blt n 100 then q_X5_digest else q_X5_within)) else (bif Nat.blt n 103 then (bif Nat.blt n 102 then q_X5_holds else q_X5_isOfKind) else (bif Nat.blt n 104 then q_X5_greatestDivisor else q_X5_refuse))))))) else (bif Nat.blt n 157 then (bif Nat.blt n 131 then (bif Nat.blt n 118 then (bif Nat.blt n 111 then (bif Nat.blt n 108 then (bif Nat.blt n 106 then q_X5_tell else (bif Nat.blt n 107 then q_X5_renewed else q_X5_refusalOfPlace)) else (bif Nat.blt n 109 then q_X5_isKept else (bif Nat.blt n 110 then q_X5_findWays else q_X5_fewest))) else (bif Nat.blt n 114 then (bif Nat.blt n 112 then q_X5_canReach else (bif Nat.blt n 113 then q_X5_changedWithout else q_X5_fileByLot)) else (bif Nat.blt n 116 then (bif Nat.blt n 115 then q_X5_countOf else q_X5_there) else (bif Nat.blt n 117 then q_X6_init else q_X6_in)))) else (bif Nat.blt n 124 then (bif Nat.blt n 121 then (bif Nat.blt n 119 then q_X6_has else (bif Nat.blt n 120 then q_X6_ones else q_X6_finds)) else (bif Nat.blt n 122 then q_X6_tells else (bif Nat.blt n 123 then q_X6_isRow else q_X6_isText))) else (bif Nat.blt n 127 then (bif Nat.blt n 125 then q_X6_row else (bif Nat.blt n 126 then q_X6_lay else q_X6_at)) else (bif Nat.blt n 129 then (bif Nat.blt n 128 then q_X6_tear else q_X6_isPart) else (bif Nat.blt n 130 then q_X6_copy else q_X6_mean))))) else (bif Nat.blt n 144 then (bif Nat.blt n 137 then (bif Nat.blt n 134 then (bif Nat.blt n 132 then q_X6_text else (bif Nat.blt n 133 then q_X6_put else q_X6_byteAt)) else (bif Nat.blt n 135 then q_X6_kindOf else (bif Nat.blt n 136 then q_X6_figure else q_X6_faults))) else (bif Nat.blt n 140 then (bif Nat.blt n 138 then q_X6_readsCitation else (bif Nat.blt n 139 then q_X6_readsItem else q_X6_reads)) else (bif Nat.blt n 142 then (bif Nat.blt n 141 then q_X6_fault else q_X6_adds) else (bif Nat.blt n 143 then q_X6_court else q_X6_isRuling)))) else (bif Nat.blt n 150 then (bif Nat.blt n 147 then (bif Nat.blt n 145 then q_X6_isSet else (bif Nat.blt n 146 then q_X6_citing else q_X6_told)) else (bif Nat.blt n 148 then q_X6_ruling else (bif Nat.blt n 149 then q_X6_isOf else q_X6_depends))) else (bif Nat.blt n 153 then (bif Nat.blt n 151 then q_X6_ofItsDay else (bif Nat.blt n 152 then q_X6_mark else q_X6_reverse)) else (bif Nat.blt n 155 then (bif Nat.blt n 154 then q_X6_marks else q_X6_file) else (bif Nat.blt n 156 then q_X6_strike else q_X6_keep)))))) else (bif Nat.blt n 183 then (bif Nat.blt n 170 then (bif Nat.blt n 163 then (bif Nat.blt n 160 then (bif Nat.blt n 158 then q_X6_on else (bif Nat.blt n 159 then q_X6_all else q_X6_isDue)) else (bif Nat.blt n 161 then q_X6_dueBy else (bif Nat.blt n 162 then q_X6_isWay else q_X6_due))) else (bif Nat.blt n 166 then (bif Nat.blt n 164 then q_X6_wayMany else (bif Nat.blt n 165 then q_X6_firstWay else q_X6_standsIn)) else (bif Nat.blt n 168 then (bif Nat.blt n 167 then q_X6_ways else q_X6_nth) else (bif Nat.blt n 169 then q_X6_findsSure else q_X6_sure)))) else (bif Nat.blt n 176 then (bif Nat.blt n 173 then (bif Nat.blt n 171 then q_X6_odds else (bif Nat.blt n 172 then q_X6_together else q_X6_upTo)) else (bif Nat.blt n 174 then q_X6_till else (bif Nat.blt n 175 then q_X6_flips else q_X6_jam))) else (bif Nat.blt n 179 then (bif Nat.blt n 177 then q_X6_isReached else (bif Nat.blt n 178 then q_X6_power else q_X6_strikes)) else (bif Nat.blt n 181 then (bif Nat.blt n 180 then q_X6_files else q_X6_fell) else (bif Nat.blt n 182 then q_X6_guard else q_X6_settle))))) else (bif Nat.blt n 196 then (bif Nat.blt n 189 then (bif Nat.blt n 186 then (bif Nat.blt n 184 then q_X6_otherwise else (bif Nat.blt n 185 then q_X6_matter else q_X6_judge)) else (bif Nat.blt n 187 then q_X6_likeness else (bif Nat.blt n 188 then q_X6_like else q_X6_verdictBy))) else (bif Nat.blt n 192 then (bif Nat.blt n 190 then q_X6_verdict else (bif Nat.blt n 191 then q_X6_surely else q_X6_freed)) else (bif Nat.blt n 194 then (bif Nat.blt n 193 then q_X6_agrees else q_X6_code) else (bif Nat.blt n 195 then q_X6_kinds else q_X6_forged)))) else (bif Nat.blt n 203 then (bif Nat.blt n 199 then (bif Nat.blt n 197 then q_X6_torn else (bif Nat.blt n 198 then q_X6_ahead else q_X6_nthAhead)) else (bif Nat.blt n 201 then (bif Nat.blt n 200 then q_X6_lots else q_X6_asked) else (bif Nat.blt n 202 then q_X6_upper else q_X6_lower))) else (bif Nat.blt n 206 then (bif Nat.blt n 204 then q_X6_counted else (bif Nat.blt n 205 then q_X6_count else q_X6_finding)) else (bif Nat.blt n 208 then (bif Nat.blt n 207 then q_X6_findings else q_X6_digest) else (bif Nat.blt n 209 then q_J6_bitCount_0f7a4 else q_L_law))))))))
def mm_ml (n : Nat) : Nat := (bif Nat.blt n 105 then (bif Nat.blt n 52 then (bif Nat.blt n 26 then (bif Nat.blt n 13 then (bif Nat.blt n 6 then (bif Nat.blt n 3 then (bif Nat.blt n 1 then 1 else (bif Nat.blt n 2 then 4 else 3)) else (bif Nat.blt n 4 then 2 else (bif Nat.blt n 5 then 4 else 4))) else (bif Nat.blt n 9 then (bif Nat.blt n 7 then 3 else (bif Nat.blt n 8 then 1 else 2)) else (bif Nat.blt n 11 then (bif Nat.blt n 10 then 1 else 3) else (bif Nat.blt n 12 then 5 else 7)))) else (bif Nat.blt n 19 then (bif Nat.blt n 16 then (bif Nat.blt n 14 then 2 else (bif Nat.blt n 15 then 3 else 3)) else (bif Nat.blt n 17 then 5 else (bif Nat.blt n 18 then 4 else 4))) else (bif Nat.blt n 22 then (bif Nat.blt n 20 then 2 else (bif Nat.blt n 21 then 4 else 5)) else (bif Nat.blt n 24 then (bif Nat.blt n 23 then 6 else 9) else (bif Nat.blt n 25 then 4 else 4))))) else (bif Nat.blt n 39 then (bif Nat.blt n 32 then (bif Nat.blt n 29 then (bif Nat.blt n 27 then 1 else (bif Nat.blt n 28 then 3 else 1)) else (bif Nat.blt n 30 then 6 else (bif Nat.blt n 31 then 1 else 2))) else (bif Nat.blt n 35 then (bif Nat.blt n 33 then 2 else (bif Nat.blt n 34 then 3 else 2)) else (bif Nat.blt n 37 then (bif Nat.blt n 36 then 1 else 2) else (bif Nat.blt n 38 then 3 else 2)))) else (bif Nat.blt n 45 then (bif Nat.blt n 42 then (bif Nat.blt n 40 then 4 else (bif Nat.blt n 41 then 4 else 1)) else (bif Nat.blt n 43 then 4 else (bif Nat.blt n 44 then 6 else 1))) else (bif Nat.blt n 48 then (bif Nat.blt n 46 then 4 else (bif Nat.blt n 47 then 1 else 1)) else (bif Nat.blt n 50 then (bif Nat.blt n 49 then 1 else 4) else (bif Nat.blt n 51 then 3 else 2)))))) else (bif Nat.blt n 78 then (bif Nat.blt n 65 then (bif Nat.blt n 58 then (bif Nat.blt n 55 then (bif Nat.blt n 53 then 3 else (bif Nat.blt n 54 then 5 else 4)) else (bif Nat.blt n 56 then 2 else (bif Nat.blt n 57 then 6 else 3))) else (bif Nat.blt n 61 then (bif Nat.blt n 59 then 3 else (bif Nat.blt n 60 then 5 else 2)) else (bif Nat.blt n 63 then (bif Nat.blt n 62 then 3 else 3) else (bif Nat.blt n 64 then 3 else 4)))) else (bif Nat.blt n 71 then (bif Nat.blt n 68 then (bif Nat.blt n 66 then 4 else (bif Nat.blt n 67 then 8 else 3)) else (bif Nat.blt n 69 then 2 else (bif Nat.blt n 70 then 2 else 4))) else (bif Nat.blt n 74 then (bif Nat.blt n 72 then 1 else (bif Nat.blt n 73 then 2 else 1)) else (bif Nat.blt n 76 then (bif Nat.blt n 75 then 4 else 5) else (bif Nat.blt n 77 then 2 else 6))))) else (bif Nat.blt n 91 then (bif Nat.blt n 84 then (bif Nat.blt n 81 then (bif Nat.blt n 79 then 2 else (bif Nat.blt n 80 then 3 else 3)) else (bif Nat.blt n 82 then 2 else (bif Nat.blt n 83 then 2 else 6))) else (bif Nat.blt n 87 then (bif Nat.blt n 85 then 3 else (bif Nat.blt n 86 then 3 else 4)) else (bif Nat.blt n 89 then (bif Nat.blt n 88 then 6 else 7) else (bif Nat.blt n 90 then 5 else 4)))) else (bif Nat.blt n 98 then (bif Nat.blt n 94 then (bif Nat.blt n 92 then 6 else (bif Nat.blt n 93 then 5 else 1)) else (bif Nat.blt n 96 then (bif Nat.blt n 95 then 1 else 1) else (bif Nat.blt n 97 then 2 else 1))) else (bif Nat.blt n 101 then (bif Nat.blt n 99 then 2 else (bif Nat.blt n 100 then 5 else 2)) else (bif Nat.blt n 103 then (bif Nat.blt n 102 then 2 else 2) else (bif Nat.blt n 104 then 3 else 2))))))) else (bif Nat.blt n 157 then (bif Nat.blt n 131 then (bif Nat.blt n 118 then (bif Nat.blt n 111 then (bif Nat.blt n 108 then (bif Nat.blt n 106 then 2 else (bif Nat.blt n 107 then 5 else 3)) else (bif Nat.blt n 109 then 2 else (bif Nat.blt n 110 then 2 else 6))) else (bif Nat.blt n 114 then (bif Nat.blt n 112 then 7 else (bif Nat.blt n 113 then 5 else 6)) else (bif Nat.blt n 116 then (bif Nat.blt n 115 then 4 else 3) else (bif Nat.blt n 117 then 2 else 3)))) else (bif Nat.blt n 124 then (bif Nat.blt n 121 then (bif Nat.blt n 119 then 2 else (bif Nat.blt n 120 then 3 else 2)) else (bif Nat.blt n 122 then 2 else (bif Nat.blt n 123 then 1 else 1))) else (bif Nat.blt n 127 then (bif Nat.blt n 125 then 4 else (bif Nat.blt n 126 then 5 else 3)) else (bif Nat.blt n 129 then (bif Nat.blt n 128 then 2 else 4) else (bif Nat.blt n 130 then 7 else 5))))) else (bif Nat.blt n 144 then (bif Nat.blt n 137 then (bif Nat.blt n 134 then (bif Nat.blt n 132 then 4 else (bif Nat.blt n 133 then 5 else 3)) else (bif Nat.blt n 135 then 1 else (bif Nat.blt n 136 then 5 else 2))) else (bif Nat.blt n 140 then (bif Nat.blt n 138 then 6 else (bif Nat.blt n 139 then 6 else 5)) else (bif Nat.blt n 142 then (bif Nat.blt n 141 then 2 else 7) else (bif Nat.blt n 143 then 3 else 2)))) else (bif Nat.blt n 150 then (bif Nat.blt n 147 then (bif Nat.blt n 145 then 2 else (bif Nat.blt n 146 then 5 else 3)) else (bif Nat.blt n 148 then 3 else (bif Nat.blt n 149 then 2 else 4))) else (bif Nat.blt n 153 then (bif Nat.blt n 151 then 4 else (bif Nat.blt n 152 then 3 else 4)) else (bif Nat.blt n 155 then (bif Nat.blt n 154 then 4 else 8) else (bif Nat.blt n 156 then 5 else 4)))))) else (bif Nat.blt n 183 then (bif Nat.blt n 170 then (bif Nat.blt n 163 then (bif Nat.blt n 160 then (bif Nat.blt n 158 then 4 else (bif Nat.blt n 159 then 2 else 12)) else (bif Nat.blt n 161 then 4 else (bif Nat.blt n 162 then 2 else 2))) else (bif Nat.blt n 166 then (bif Nat.blt n 164 then 3 else (bif Nat.blt n 165 then 2 else 4)) else (bif Nat.blt n 168 then (bif Nat.blt n 167 then 1 else 4) else (bif Nat.blt n 169 then 3 else 1)))) else (bif Nat.blt n 176 then (bif Nat.blt n 173 then (bif Nat.blt n 171 then 7 else (bif Nat.blt n 172 then 5 else 3)) else (bif Nat.blt n 174 then 2 else (bif Nat.blt n 175 then 6 else 2))) else (bif Nat.blt n 179 then (bif Nat.blt n 177 then 3 else (bif Nat.blt n 178 then 4 else 8)) else (bif Nat.blt n 181 then (bif Nat.blt n 180 then 8 else 3) else (bif Nat.blt n 182 then 3 else 2))))) else (bif Nat.blt n 196 then (bif Nat.blt n 189 then (bif Nat.blt n 186 then (bif Nat.blt n 184 then 4 else (bif Nat.blt n 185 then 2 else 6)) else (bif Nat.blt n 187 then 2 else (bif Nat.blt n 188 then 3 else 9))) else (bif Nat.blt n 192 then (bif Nat.blt n 190 then 3 else (bif Nat.blt n 191 then 5 else 5)) else (bif Nat.blt n 194 then (bif Nat.blt n 193 then 5 else 5) else (bif Nat.blt n 195 then 6 else 6)))) else (bif Nat.blt n 203 then (bif Nat.blt n 199 then (bif Nat.blt n 197 then 7 else (bif Nat.blt n 198 then 4 else 5)) else (bif Nat.blt n 201 then (bif Nat.blt n 200 then 10 else 1) else (bif Nat.blt n 202 then 1 else 1))) else (bif Nat.blt n 206 then (bif Nat.blt n 204 then 5 else (bif Nat.blt n 205 then 2 else 1)) else (bif Nat.blt n 208 then (bif Nat.blt n 207 then 2 else 5) else (bif Nat.blt n 209 then 1 else 4))))))))
def mm_rt (n : Nat) : Option FieldType := (bif Nat.blt n 105 then (bif Nat.blt n 52 then (bif Nat.blt n 26 then (bif Nat.blt n 13 then (bif Nat.blt n 6 then (bif Nat.blt n 3 then (bif Nat.blt n 1 then none else (bif Nat.blt n 2 then none else none)) else (bif Nat.blt n 4 then (some .boolean) else (bif Nat.blt n 5 then (some .boolean) else (some .int)))) else (bif Nat.blt n 9 then (bif Nat.blt n 7 then (some .int) else (bif Nat.blt n 8 then none else (some .boolean))) else (bif Nat.blt n 11 then (bif Nat.blt n 10 then (some .int) else (some .boolean)) else (bif Nat.blt n 12 then (some .int) else none)))) else (bif Nat.blt n 19 then (bif Nat.blt n 16 then (bif Nat.blt n 14 then none else (bif Nat.blt n 15 then none else (some .int))) else (bif Nat.blt n 17 then (some .int) else (bif Nat.blt n 18 then (some .int) else (some .int)))) else (bif Nat.blt n 22 then (bif Nat.blt n 20 then (some .int) else (bif Nat.blt n 21 then (some .int) else (some .int))) else (bif Nat.blt n 24 then (bif Nat.blt n 23 then (some .int) else (some .int)) else (bif Nat.blt n 25 then (some .int) else (some .boolean)))))) else (bif Nat.blt n 39 then (bif Nat.blt n 32 then (bif Nat.blt n 29 then (bif Nat.blt n 27 then none else (bif Nat.blt n 28 then (some .int) else none)) else (bif Nat.blt n 30 then (some .boolean) else (bif Nat.blt n 31 then (some .int) else (some .int)))) else (bif Nat.blt n 35 then (bif Nat.blt n 33 then (some .int) else (bif Nat.blt n 34 then (some .int) else none)) else (bif Nat.blt n 37 then (bif Nat.blt n 36 then (some .boolean) else (some .boolean)) else (bif Nat.blt n 38 then (some .boolean) else (some .int))))) else (bif Nat.blt n 45 then (bif Nat.blt n 42 then (bif Nat.blt n 40 then (some .int) else (bif Nat.blt n 41 then none else none)) else (bif Nat.blt n 43 then (some .long) else (bif Nat.blt n 44 then (some .long) else none))) else (bif Nat.blt n 48 then (bif Nat.blt n 46 then none else (bif Nat.blt n 47 then (some .int) else (some .int))) else (bif Nat.blt n 50 then (bif Nat.blt n 49 then (some .int) else (some .int)) else (bif Nat.blt n 51 then (some .boolean) else none)))))) else (bif Nat.blt n 78 then (bif Nat.blt n 65 then (bif Nat.blt n 58 then (bif Nat.blt n 55 then (bif Nat.blt n 53 then (some .int) else (bif Nat.blt n 54 then (some .int) else (some .int))) else (bif Nat.blt n 56 then (some .int) else (bif Nat.blt n 57 then (some .int) else (some .int)))) else (bif Nat.blt n 61 then (bif Nat.blt n 59 then (some .int) else (bif Nat.blt n 60 then (some .int) else (some .int))) else (bif Nat.blt n 63 then (bif Nat.blt n 62 then (some .int) else (some .int)) else (bif Nat.blt n 64 then (some .int) else (some .int))))) else (bif Nat.blt n 71 then (bif Nat.blt n 68 then (bif Nat.blt n 66 then (some .int) else (bif Nat.blt n 67 then (some .int) else (some .int))) else (bif Nat.blt n 69 then (some .int) else (bif Nat.blt n 70 then (some .int) else (some .int)))) else (bif Nat.blt n 74 then (bif Nat.blt n 72 then (some .int) else (bif Nat.blt n 73 then (some .int) else (some .int))) else (bif Nat.blt n 76 then (bif Nat.blt n 75 then (some .int) else (some .int)) else (bif Nat.blt n 77 then (some .int) else (some .int)))))) else (bif Nat.blt n 91 then (bif Nat.blt n 84 then (bif Nat.blt n 81 then (bif Nat.blt n 79 then (some .int) else (bif Nat.blt n 80 then (some .int) else (some .int))) else (bif Nat.blt n 82 then (some .int) else (bif Nat.blt n 83 then (some .int) else (some .int)))) else (bif Nat.blt n 87 then (bif Nat.blt n 85 then (some .int) else (bif Nat.blt n 86 then (some .int) else (some .int))) else (bif Nat.blt n 89 then (bif Nat.blt n 88 then (some .int) else (some .int)) else (bif Nat.blt n 90 then (some .int) else (some .int))))) else (bif Nat.blt n 98 then (bif Nat.blt n 94 then (bif Nat.blt n 92 then (some .int) else (bif Nat.blt n 93 then (some .int) else (some .int))) else (bif Nat.blt n 96 then (bif Nat.blt n 95 then (some .long) else (some .long)) else (bif Nat.blt n 97 then (some .int) else (some .int)))) else (bif Nat.blt n 101 then (bif Nat.blt n 99 then (some .int) else (bif Nat.blt n 100 then (some .long) else (some .boolean))) else (bif Nat.blt n 103 then (bif Nat.blt n 102 then (some .boolean) else (some .boolean)) else (bif Nat.blt n 104 then (some .int) else (some .int)))))))) else (bif Nat.blt n 157 then (bif Nat.blt n 131 then (bif Nat.blt n 118 then (bif Nat.blt n 111 then (bif Nat.blt n 108 then (bif Nat.blt n 106 then (some .int) else (bif Nat.blt n 107 then (some .int) else (some .int))) else (bif Nat.blt n 109 then (some .boolean) else (bif Nat.blt n 110 then none else (some .int)))) else (bif Nat.blt n 114 then (bif Nat.blt n 112 then (some .boolean) else (bif Nat.blt n 113 then (some .int) else none)) else (bif Nat.blt n 116 then (bif Nat.blt n 115 then (some .int) else (some .int)) else (bif Nat.blt n 117 then none else (some .boolean))))) else (bif Nat.blt n 124 then (bif Nat.blt n 121 then (bif Nat.blt n 119 then (some .boolean) else (bif Nat.blt n 120 then (some .int) else (some .int))) else (bif Nat.blt n 122 then (some .int) else (bif Nat.blt n 123 then (some .boolean) else (some .boolean)))) else (bif Nat.blt n 127 then (bif Nat.blt n 125 then (some .int) else (bif Nat.blt n 126 then (some .int) else (some .int))) else (bif Nat.blt n 129 then (bif Nat.blt n 128 then (some .int) else (some .boolean)) else (bif Nat.blt n 130 then (some .int) else (some .int)))))) else (bif Nat.blt n 144 then (bif Nat.blt n 137 then (bif Nat.blt n 134 then (bif Nat.blt n 132 then (some .int) else (bif Nat.blt n 133 then (some .int) else (some .int))) else (bif Nat.blt n 135 then (some .int) else (bif Nat.blt n 136 then (some .int) else none))) else (bif Nat.blt n 140 then (bif Nat.blt n 138 then none else (bif Nat.blt n 139 then none else (some .int))) else (bif Nat.blt n 142 then (bif Nat.blt n 141 then (some .int) else none) else (bif Nat.blt n 143 then (some .int) else (some .boolean))))) else (bif Nat.blt n 150 then (bif Nat.blt n 147 then (bif Nat.blt n 145 then (some .boolean) else (bif Nat.blt n 146 then (some .int) else (some .int))) else (bif Nat.blt n 148 then (some .int) else (bif Nat.blt n 149 then (some .boolean) else (some .int)))) else (bif Nat.blt n 153 then (bif Nat.blt n 151 then (some .int) else (bif Nat.blt n 152 then (some .int) else (some .int))) else (bif Nat.blt n 155 then (bif Nat.blt n 154 then (some .int) else (some .int)) else (bif Nat.blt n 156 then (some .int) else (some .int))))))) else (bif Nat.blt n 183 then (bif Nat.blt n 170 then (bif Nat.blt n 163 then (bif Nat.blt n 160 then (bif Nat.blt n 158 then (some .int) else (bif Nat.blt n 159 then none else (some .boolean))) else (bif Nat.blt n 161 then (some .int) else (bif Nat.blt n 162 then (some .boolean) else (some .int)))) else (bif Nat.blt n 166 then (bif Nat.blt n 164 then (some .int) else (bif Nat.blt n 165 then (some .int) else (some .int))) else (bif Nat.blt n 168 then (bif Nat.blt n 167 then (some .int) else (some .int)) else (bif Nat.blt n 169 then none else (some .int))))) else (bif Nat.blt n 176 then (bif Nat.blt n 173 then (bif Nat.blt n 171 then (some .int) else (bif Nat.blt n 172 then (some .int) else none)) else (bif Nat.blt n 174 then (some .int) else (bif Nat.blt n 175 then (some .int) else (some .int)))) else (bif Nat.blt n 179 then (bif Nat.blt n 177 then (some .boolean) else (bif Nat.blt n 178 then (some .int) else (some .boolean))) else (bif Nat.blt n 181 then (bif Nat.blt n 180 then (some .int) else (some .int)) else (bif Nat.blt n 182 then (some .int) else (some .int)))))) else (bif Nat.blt n 196 then (bif Nat.blt n 189 then (bif Nat.blt n 186 then (bif Nat.blt n 184 then (some .int) else (bif Nat.blt n 185 then (some .int) else (some .int))) else (bif Nat.blt n 187 then (some .int) else (bif Nat.blt n 188 then (some .int) else (some .int)))) else (bif Nat.blt n 192 then (bif Nat.blt n 190 then (some .int) else (bif Nat.blt n 191 then (some .int) else (some .int))) else (bif Nat.blt n 194 then (bif Nat.blt n 193 then (some .boolean) else (some .int)) else (bif Nat.blt n 195 then (some .int) else (some .int))))) else (bif Nat.blt n 203 then (bif Nat.blt n 199 then (bif Nat.blt n 197 then (some .int) else (bif Nat.blt n 198 then (some .int) else (some .int))) else (bif Nat.blt n 201 then (bif Nat.blt n 200 then (some .int) else (some .int)) else (bif Nat.blt n 202 then (some .long) else (some .long)))) else (bif Nat.blt n 206 then (bif Nat.blt n 204 then (some .int) else (bif Nat.blt n 205 then (some .int) else (some .int))) else (bif Nat.blt n 208 then (bif Nat.blt n 207 then (some .int) else (some .long)) else (bif Nat.blt n 209 then (some .int) else (some .boolean)))))))))
def mm_by (n : Nat) : ByteArray := (bif Nat.blt n 105 then (bif Nat.blt n 52 then (bif Nat.blt n 26 then (bif Nat.blt n 13 then (bif Nat.blt n 6 then (bif Nat.blt n 3 then (bif Nat.blt n 1 then cX0_init else (bif Nat.blt n 2 then cX0_seat else cX0_forgetCitation)) else (bif Nat.blt n 4 then cX0_isMovedByOneMore else (bif Nat.blt n 5 then cX0_isToStand else cX0_clash))) else (bif Nat.blt n 9 then (bif Nat.blt n 7 then cX0_mattersTo else (bif Nat.blt n 8 then cX1_init else cX1_has)) else (bif Nat.blt n 11 then (bif Nat.blt n 10 then cX1_everyRuling else cX1_canBeCited) else (bif Nat.blt n 12 then cX1_citable else cX1_add)))) else (bif Nat.blt n 19 then (bif Nat.blt n 16 then (bif Nat.blt n 14 then cX1_cutTo else (bif Nat.blt n 15 then cX1_become else cX1_detail)) else (bif Nat.blt n 17 then cX1_citations else (bif Nat.blt n 18 then cX1_dependsOn else cX1_ofDay))) else (bif Nat.blt n 22 then (bif Nat.blt n 20 then cX1_othersOfItsDay else (bif Nat.blt n 21 then cX1_laterThan else cX1_countOf)) else (bif Nat.blt n 24 then (bif Nat.blt n 23 then cX1_likeness else cX1_decide) else (bif Nat.blt n 25 then cX1_verdictsBy else cX1_agrees))))) else (bif Nat.blt n 39 then (bif Nat.blt n 32 then (bif Nat.blt n 29 then (bif Nat.blt n 27 then cX2_init else (bif Nat.blt n 28 then cX2_read else cX2_skipBlanks)) else (bif Nat.blt n 30 then cX2_readItem else (bif Nat.blt n 31 then cX2_sign else cX2_letter))) else (bif Nat.blt n 35 then (bif Nat.blt n 33 then cX2_figure else (bif Nat.blt n 34 then cX2_readMarks else cX3_init)) else (bif Nat.blt n 37 then (bif Nat.blt n 36 then cX3_isMissing else cX3_has) else (bif Nat.blt n 38 then cX3_hasRun else cX3_value)))) else (bif Nat.blt n 45 then (bif Nat.blt n 42 then (bif Nat.blt n 40 then cX3_swap else (bif Nat.blt n 41 then cX3_renew else cX3_remove)) else (bif Nat.blt n 43 then cX3_sum else (bif Nat.blt n 44 then cX3_digestFrom else cX4_init))) else (bif Nat.blt n 48 then (bif Nat.blt n 46 then cX4_find else (bif Nat.blt n 47 then cX4_first else cX4_surelyStanding)) else (bif Nat.blt n 50 then (bif Nat.blt n 49 then cX4_surelyFalling else cX4_waysWith) else (bif Nat.blt n 51 then cX4_meets else cX5_init)))))) else (bif Nat.blt n 78 then (bif Nat.blt n 65 then (bif Nat.blt n 58 then (bif Nat.blt n 55 then (bif Nat.blt n 53 then cX5_row else (bif Nat.blt n 54 then cX5_lay else cX5_at)) else (bif Nat.blt n 56 then cX5_tear else (bif Nat.blt n 57 then cX5_copy else cX5_mean))) else (bif Nat.blt n 61 then (bif Nat.blt n 59 then cX5_text else (bif Nat.blt n 60 then cX5_put else cX5_fault)) else (bif Nat.blt n 63 then (bif Nat.blt n 62 then cX5_court else cX5_ruling) else (bif Nat.blt n 64 then cX5_mark else cX5_reverse)))) else (bif Nat.blt n 71 then (bif Nat.blt n 68 then (bif Nat.blt n 66 then cX5_marks else (bif Nat.blt n 67 then cX5_file else cX5_strike)) else (bif Nat.blt n 69 then cX5_keep else (bif Nat.blt n 70 then cX5_on else cX5_due))) else (bif Nat.blt n 74 then (bif Nat.blt n 72 then cX5_ways else (bif Nat.blt n 73 then cX5_nth else cX5_sure)) else (bif Nat.blt n 76 then (bif Nat.blt n 75 then cX5_odds else cX5_together) else (bif Nat.blt n 77 then cX5_till else cX5_flips))))) else (bif Nat.blt n 91 then (bif Nat.blt n 84 then (bif Nat.blt n 81 then (bif Nat.blt n 79 then cX5_jam else (bif Nat.blt n 80 then cX5_fell else cX5_guard)) else (bif Nat.blt n 82 then cX5_settle else (bif Nat.blt n 83 then cX5_matter else cX5_judge))) else (bif Nat.blt n 87 then (bif Nat.blt n 85 then cX5_like else (bif Nat.blt n 86 then cX5_verdict else cX5_surely)) else (bif Nat.blt n 89 then (bif Nat.blt n 88 then cX5_freed else cX5_code) else (bif Nat.blt n 90 then cX5_kinds else cX5_forged)))) else (bif Nat.blt n 98 then (bif Nat.blt n 94 then (bif Nat.blt n 92 then cX5_torn else (bif Nat.blt n 93 then cX5_lots else cX5_asked)) else (bif Nat.blt n 96 then (bif Nat.blt n 95 then cX5_upper else cX5_lower) else (bif Nat.blt n 97 then cX5_count else cX5_finding))) else (bif Nat.blt n 101 then (bif Nat.blt n 99 then cX5_findings else (bif Nat.blt n 100 then cX5_digest else cX5_within)) else (bif Nat.blt n 103 then (bif Nat.blt n 102 then cX5_holds else cX5_isOfKind) else (bif Nat.blt n 104 then cX5_greatestDivisor else cX5_refuse))))))) else (bif Nat.blt n 157 then (bif Nat.blt n 131 then (bif Nat.blt n 118 then (bif Nat.blt n 111 then (bif Nat.blt n 108 then (bif Nat.blt n 106 then cX5_tell else (bif Nat.blt n 107 then cX5_renewed else cX5_refusalOfPlace)) else (bif Nat.blt n 109 then cX5_isKept else (bif Nat.blt n 110 then cX5_findWays else cX5_fewest))) else (bif Nat.blt n 114 then (bif Nat.blt n 112 then cX5_canReach else (bif Nat.blt n 113 then cX5_changedWithout else cX5_fileByLot)) else (bif Nat.blt n 116 then (bif Nat.blt n 115 then cX5_countOf else cX5_there) else (bif Nat.blt n 117 then cX6_init else cX6_in)))) else (bif Nat.blt n 124 then (bif Nat.blt n 121 then (bif Nat.blt n 119 then cX6_has else (bif Nat.blt n 120 then cX6_ones else cX6_finds)) else (bif Nat.blt n 122 then cX6_tells else (bif Nat.blt n 123 then cX6_isRow else cX6_isText))) else (bif Nat.blt n 127 then (bif Nat.blt n 125 then cX6_row else (bif Nat.blt n 126 then cX6_lay else cX6_at)) else (bif Nat.blt n 129 then (bif Nat.blt n 128 then cX6_tear else cX6_isPart) else (bif Nat.blt n 130 then cX6_copy else cX6_mean))))) else (bif Nat.blt n 144 then (bif Nat.blt n 137 then (bif Nat.blt n 134 then (bif Nat.blt n 132 then cX6_text else (bif Nat.blt n 133 then cX6_put else cX6_byteAt)) else (bif Nat.blt n 135 then cX6_kindOf else (bif Nat.blt n 136 then cX6_figure else cX6_faults))) else (bif Nat.blt n 140 then (bif Nat.blt n 138 then cX6_readsCitation else (bif Nat.blt n 139 then cX6_readsItem else cX6_reads)) else (bif Nat.blt n 142 then (bif Nat.blt n 141 then cX6_fault else cX6_adds) else (bif Nat.blt n 143 then cX6_court else cX6_isRuling)))) else (bif Nat.blt n 150 then (bif Nat.blt n 147 then (bif Nat.blt n 145 then cX6_isSet else (bif Nat.blt n 146 then cX6_citing else cX6_told)) else (bif Nat.blt n 148 then cX6_ruling else (bif Nat.blt n 149 then cX6_isOf else cX6_depends))) else (bif Nat.blt n 153 then (bif Nat.blt n 151 then cX6_ofItsDay else (bif Nat.blt n 152 then cX6_mark else cX6_reverse)) else (bif Nat.blt n 155 then (bif Nat.blt n 154 then cX6_marks else cX6_file) else (bif Nat.blt n 156 then cX6_strike else cX6_keep)))))) else (bif Nat.blt n 183 then (bif Nat.blt n 170 then (bif Nat.blt n 163 then (bif Nat.blt n 160 then (bif Nat.blt n 158 then cX6_on else (bif Nat.blt n 159 then cX6_all else cX6_isDue)) else (bif Nat.blt n 161 then cX6_dueBy else (bif Nat.blt n 162 then cX6_isWay else cX6_due))) else (bif Nat.blt n 166 then (bif Nat.blt n 164 then cX6_wayMany else (bif Nat.blt n 165 then cX6_firstWay else cX6_standsIn)) else (bif Nat.blt n 168 then (bif Nat.blt n 167 then cX6_ways else cX6_nth) else (bif Nat.blt n 169 then cX6_findsSure else cX6_sure)))) else (bif Nat.blt n 176 then (bif Nat.blt n 173 then (bif Nat.blt n 171 then cX6_odds else (bif Nat.blt n 172 then cX6_together else cX6_upTo)) else (bif Nat.blt n 174 then cX6_till else (bif Nat.blt n 175 then cX6_flips else cX6_jam))) else (bif Nat.blt n 179 then (bif Nat.blt n 177 then cX6_isReached else (bif Nat.blt n 178 then cX6_power else cX6_strikes)) else (bif Nat.blt n 181 then (bif Nat.blt n 180 then cX6_files else cX6_fell) else (bif Nat.blt n 182 then cX6_guard else cX6_settle))))) else (bif Nat.blt n 196 then (bif Nat.blt n 189 then (bif Nat.blt n 186 then (bif Nat.blt n 184 then cX6_otherwise else (bif Nat.blt n 185 then cX6_matter else cX6_judge)) else (bif Nat.blt n 187 then cX6_likeness else (bif Nat.blt n 188 then cX6_like else cX6_verdictBy))) else (bif Nat.blt n 192 then (bif Nat.blt n 190 then cX6_verdict else (bif Nat.blt n 191 then cX6_surely else cX6_freed)) else (bif Nat.blt n 194 then (bif Nat.blt n 193 then cX6_agrees else cX6_code) else (bif Nat.blt n 195 then cX6_kinds else cX6_forged)))) else (bif Nat.blt n 203 then (bif Nat.blt n 199 then (bif Nat.blt n 197 then cX6_torn else (bif Nat.blt n 198 then cX6_ahead else cX6_nthAhead)) else (bif Nat.blt n 201 then (bif Nat.blt n 200 then cX6_lots else cX6_asked) else (bif Nat.blt n 202 then cX6_upper else cX6_lower))) else (bif Nat.blt n 206 then (bif Nat.blt n 204 then cX6_counted else (bif Nat.blt n 205 then cX6_count else cX6_finding)) else (bif Nat.blt n 208 then (bif Nat.blt n 207 then cX6_findings else cX6_digest) else (bif Nat.blt n 209 then cJ6_bitCount_0f7a4 else cL_law))))))))
def mm_ow (n : Nat) : String := (bif Nat.blt n 105 then (bif Nat.blt n 52 then (bif Nat.blt n 26 then (bif Nat.blt n 13 then (bif Nat.blt n 6 then (bif Nat.blt n 3 then (bif Nat.blt n 1 then RX0 else (bif Nat.blt n 2 then RX0 else RX0)) else (bif Nat.blt n 4 then RX0 else (bif Nat.blt n 5 then RX0 else RX0))) else (bif Nat.blt n 9 then (bif Nat.blt n 7 then RX0 else (bif Nat.blt n 8 then RX1 else RX1)) else (bif Nat.blt n 11 then (bif Nat.blt n 10 then RX1 else RX1) else (bif Nat.blt n 12 then RX1 else RX1)))) else (bif Nat.blt n 19 then (bif Nat.blt n 16 then (bif Nat.blt n 14 then RX1 else (bif Nat.blt n 15 then RX1 else RX1)) else (bif Nat.blt n 17 then RX1 else (bif Nat.blt n 18 then RX1 else RX1))) else (bif Nat.blt n 22 then (bif Nat.blt n 20 then RX1 else (bif Nat.blt n 21 then RX1 else RX1)) else (bif Nat.blt n 24 then (bif Nat.blt n 23 then RX1 else RX1) else (bif Nat.blt n 25 then RX1 else RX1))))) else (bif Nat.blt n 39 then (bif Nat.blt n 32 then (bif Nat.blt n 29 then (bif Nat.blt n 27 then RX2 else (bif Nat.blt n 28 then RX2 else RX2)) else (bif Nat.blt n 30 then RX2 else (bif Nat.blt n 31 then RX2 else RX2))) else (bif Nat.blt n 35 then (bif Nat.blt n 33 then RX2 else (bif Nat.blt n 34 then RX2 else RX3)) else (bif Nat.blt n 37 then (bif Nat.blt n 36 then RX3 else RX3) else (bif Nat.blt n 38 then RX3 else RX3)))) else (bif Nat.blt n 45 then (bif Nat.blt n 42 then (bif Nat.blt n 40 then RX3 else (bif Nat.blt n 41 then RX3 else RX3)) else (bif Nat.blt n 43 then RX3 else (bif Nat.blt n 44 then RX3 else RX4))) else (bif Nat.blt n 48 then (bif Nat.blt n 46 then RX4 else (bif Nat.blt n 47 then RX4 else RX4)) else (bif Nat.blt n 50 then (bif Nat.blt n 49 then RX4 else RX4) else (bif Nat.blt n 51 then RX4 else RX5)))))) else (bif Nat.blt n 78 then (bif Nat.blt n 65 then (bif Nat.blt n 58 then (bif Nat.blt n 55 then (bif Nat.blt n 53 then RX5 else (bif Nat.blt n 54 then RX5 else RX5)) else (bif Nat.blt n 56 then RX5 else (bif Nat.blt n 57 then RX5 else RX5))) else (bif Nat.blt n 61 then (bif Nat.blt n 59 then RX5 else (bif Nat.blt n 60 then RX5 else RX5)) else (bif Nat.blt n 63 then (bif Nat.blt n 62 then RX5 else RX5) else (bif Nat.blt n 64 then RX5 else RX5)))) else (bif Nat.blt n 71 then (bif Nat.blt n 68 then (bif Nat.blt n 66 then RX5 else (bif Nat.blt n 67 then RX5 else RX5)) else (bif Nat.blt n 69 then RX5 else (bif Nat.blt n 70 then RX5 else RX5))) else (bif Nat.blt n 74 then (bif Nat.blt n 72 then RX5 else (bif Nat.blt n 73 then RX5 else RX5)) else (bif Nat.blt n 76 then (bif Nat.blt n 75 then RX5 else RX5) else (bif Nat.blt n 77 then RX5 else RX5))))) else (bif Nat.blt n 91 then (bif Nat.blt n 84 then (bif Nat.blt n 81 then (bif Nat.blt n 79 then RX5 else (bif Nat.blt n 80 then RX5 else RX5)) else (bif Nat.blt n 82 then RX5 else (bif Nat.blt n 83 then RX5 else RX5))) else (bif Nat.blt n 87 then (bif Nat.blt n 85 then RX5 else (bif Nat.blt n 86 then RX5 else RX5)) else (bif Nat.blt n 89 then (bif Nat.blt n 88 then RX5 else RX5) else (bif Nat.blt n 90 then RX5 else RX5)))) else (bif Nat.blt n 98 then (bif Nat.blt n 94 then (bif Nat.blt n 92 then RX5 else (bif Nat.blt n 93 then RX5 else RX5)) else (bif Nat.blt n 96 then (bif Nat.blt n 95 then RX5 else RX5) else (bif Nat.blt n 97 then RX5 else RX5))) else (bif Nat.blt n 101 then (bif Nat.blt n 99 then RX5 else (bif Nat.blt n 100 then RX5 else RX5)) else (bif Nat.blt n 103 then (bif Nat.blt n 102 then RX5 else RX5) else (bif Nat.blt n 104 then RX5 else RX5))))))) else (bif Nat.blt n 157 then (bif Nat.blt n 131 then (bif Nat.blt n 118 then (bif Nat.blt n 111 then (bif Nat.blt n 108 then (bif Nat.blt n 106 then RX5 else (bif Nat.blt n 107 then RX5 else RX5)) else (bif Nat.blt n 109 then RX5 else (bif Nat.blt n 110 then RX5 else RX5))) else (bif Nat.blt n 114 then (bif Nat.blt n 112 then RX5 else (bif Nat.blt n 113 then RX5 else RX5)) else (bif Nat.blt n 116 then (bif Nat.blt n 115 then RX5 else RX5) else (bif Nat.blt n 117 then RX6 else RX6)))) else (bif Nat.blt n 124 then (bif Nat.blt n 121 then (bif Nat.blt n 119 then RX6 else (bif Nat.blt n 120 then RX6 else RX6)) else (bif Nat.blt n 122 then RX6 else (bif Nat.blt n 123 then RX6 else RX6))) else (bif Nat.blt n 127 then (bif Nat.blt n 125 then RX6 else (bif Nat.blt n 126 then RX6 else RX6)) else (bif Nat.blt n 129 then (bif Nat.blt n 128 then RX6 else RX6) else (bif Nat.blt n 130 then RX6 else RX6))))) else (bif Nat.blt n 144 then (bif Nat.blt n 137 then (bif Nat.blt n 134 then (bif Nat.blt n 132 then RX6 else (bif Nat.blt n 133 then RX6 else RX6)) else (bif Nat.blt n 135 then RX6 else (bif Nat.blt n 136 then RX6 else RX6))) else (bif Nat.blt n 140 then (bif Nat.blt n 138 then RX6 else (bif Nat.blt n 139 then RX6 else RX6)) else (bif Nat.blt n 142 then (bif Nat.blt n 141 then RX6 else RX6) else (bif Nat.blt n 143 then RX6 else RX6)))) else (bif Nat.blt n 150 then (bif Nat.blt n 147 then (bif Nat.blt n 145 then RX6 else (bif Nat.blt n 146 then RX6 else RX6)) else (bif Nat.blt n 148 then RX6 else (bif Nat.blt n 149 then RX6 else RX6))) else (bif Nat.blt n 153 then (bif Nat.blt n 151 then RX6 else (bif Nat.blt n 152 then RX6 else RX6)) else (bif Nat.blt n 155 then (bif Nat.blt n 154 then RX6 else RX6) else (bif Nat.blt n 156 then RX6 else RX6)))))) else (bif Nat.blt n 183 then (bif Nat.blt n 170 then (bif Nat.blt n 163 then (bif Nat.blt n 160 then (bif Nat.blt n 158 then RX6 else (bif Nat.blt n 159 then RX6 else RX6)) else (bif Nat.blt n 161 then RX6 else (bif Nat.blt n 162 then RX6 else RX6))) else (bif Nat.blt n 166 then (bif Nat.blt n 164 then RX6 else (bif Nat.blt n 165 then RX6 else RX6)) else (bif Nat.blt n 168 then (bif Nat.blt n 167 then RX6 else RX6) else (bif Nat.blt n 169 then RX6 else RX6)))) else (bif Nat.blt n 176 then (bif Nat.blt n 173 then (bif Nat.blt n 171 then RX6 else (bif Nat.blt n 172 then RX6 else RX6)) else (bif Nat.blt n 174 then RX6 else (bif Nat.blt n 175 then RX6 else RX6))) else (bif Nat.blt n 179 then (bif Nat.blt n 177 then RX6 else (bif Nat.blt n 178 then RX6 else RX6)) else (bif Nat.blt n 181 then (bif Nat.blt n 180 then RX6 else RX6) else (bif Nat.blt n 182 then RX6 else RX6))))) else (bif Nat.blt n 196 then (bif Nat.blt n 189 then (bif Nat.blt n 186 then (bif Nat.blt n 184 then RX6 else (bif Nat.blt n 185 then RX6 else RX6)) else (bif Nat.blt n 187 then RX6 else (bif Nat.blt n 188 then RX6 else RX6))) else (bif Nat.blt n 192 then (bif Nat.blt n 190 then RX6 else (bif Nat.blt n 191 then RX6 else RX6)) else (bif Nat.blt n 194 then (bif Nat.blt n 193 then RX6 else RX6) else (bif Nat.blt n 195 then RX6 else RX6)))) else (bif Nat.blt n 203 then (bif Nat.blt n 199 then (bif Nat.blt n 197 then RX6 else (bif Nat.blt n 198 then RX6 else RX6)) else (bif Nat.blt n 201 then (bif Nat.blt n 200 then RX6 else RX6) else (bif Nat.blt n 202 then RX6 else RX6))) else (bif Nat.blt n 206 then (bif Nat.blt n 204 then RX6 else (bif Nat.blt n 205 then RX6 else RX6)) else (bif Nat.blt n 208 then (bif Nat.blt n 207 then RX6 else RX6) else (bif Nat.blt n 209 then RJ6 else RL))))))))
def mm_al (n : Nat) : Nat × Nat := (bif Nat.blt n 105 then (bif Nat.blt n 52 then (bif Nat.blt n 26 then (bif Nat.blt n 13 then (bif Nat.blt n 6 then (bif Nat.blt n 3 then (bif Nat.blt n 1 then (6, 54) else (bif Nat.blt n 2 then (0, 0) else (0, 0))) else (bif Nat.blt n 4 then (0, 0) else (bif Nat.blt n 5 then (0, 0) else (0, 0)))) else (bif Nat.blt n 9 then (bif Nat.blt n 7 then (0, 0) else (bif Nat.blt n 8 then (6, 54) else (0, 0))) else (bif Nat.blt n 11 then (bif Nat.blt n 10 then (0, 0) else (0, 0)) else (bif Nat.blt n 12 then (0, 0) else (0, 0))))) else (bif Nat.blt n 19 then (bif Nat.blt n 16 then (bif Nat.blt n 14 then (0, 0) else (bif Nat.blt n 15 then (0, 0) else (0, 0))) else (bif Nat.blt n 17 then (0, 0) else (bif Nat.blt n 18 then (0, 0) else (0, 0)))) else (bif Nat.blt n 22 then (bif Nat.blt n 20 then (0, 0) else (bif Nat.blt n 21 then (0, 0) else (0, 0))) else (bif Nat.blt n 24 then (bif Nat.blt n 23 then (0, 0) else (0, 0)) else (bif Nat.blt n 25 then (0, 0) else (0, 0)))))) else (bif Nat.blt n 39 then (bif Nat.blt n 32 then (bif Nat.blt n 29 then (bif Nat.blt n 27 then (9, 143) else (bif Nat.blt n 28 then (0, 0) else (0, 0))) else (bif Nat.blt n 30 then (0, 0) else (bif Nat.blt n 31 then (0, 0) else (0, 0)))) else (bif Nat.blt n 35 then (bif Nat.blt n 33 then (0, 0) else (bif Nat.blt n 34 then (0, 0) else (1, 80))) else (bif Nat.blt n 37 then (bif Nat.blt n 36 then (0, 0) else (0, 0)) else (bif Nat.blt n 38 then (0, 0) else (0, 0))))) else (bif Nat.blt n 45 then (bif Nat.blt n 42 then (bif Nat.blt n 40 then (0, 0) else (bif Nat.blt n 41 then (0, 0) else (0, 0))) else (bif Nat.blt n 43 then (0, 0) else (bif Nat.blt n 44 then (0, 0) else (1, 512)))) else (bif Nat.blt n 48 then (bif Nat.blt n 46 then (0, 0) else (bif Nat.blt n 47 then (0, 0) else (0, 0))) else (bif Nat.blt n 50 then (bif Nat.blt n 49 then (0, 0) else (0, 0)) else (bif Nat.blt n 51 then (0, 0) else (90, 2500))))))) else (bif Nat.blt n 78 then (bif Nat.blt n 65 then (bif Nat.blt n 58 then (bif Nat.blt n 55 then (bif Nat.blt n 53 then (0, 0) else (bif Nat.blt n 54 then (0, 0) else (0, 0))) else (bif Nat.blt n 56 then (0, 0) else (bif Nat.blt n 57 then (0, 0) else (0, 0)))) else (bif Nat.blt n 61 then (bif Nat.blt n 59 then (0, 0) else (bif Nat.blt n 60 then (0, 0) else (0, 0))) else (bif Nat.blt n 63 then (bif Nat.blt n 62 then (0, 0) else (0, 0)) else (bif Nat.blt n 64 then (0, 0) else (0, 0))))) else (bif Nat.blt n 71 then (bif Nat.blt n 68 then (bif Nat.blt n 66 then (0, 0) else (bif Nat.blt n 67 then (0, 0) else (0, 0))) else (bif Nat.blt n 69 then (0, 0) else (bif Nat.blt n 70 then (0, 0) else (0, 0)))) else (bif Nat.blt n 74 then (bif Nat.blt n 72 then (0, 0) else (bif Nat.blt n 73 then (0, 0) else (0, 0))) else (bif Nat.blt n 76 then (bif Nat.blt n 75 then (0, 0) else (0, 0)) else (bif Nat.blt n 77 then (0, 0) else (0, 0)))))) else (bif Nat.blt n 91 then (bif Nat.blt n 84 then (bif Nat.blt n 81 then (bif Nat.blt n 79 then (0, 0) else (bif Nat.blt n 80 then (0, 0) else (0, 0))) else (bif Nat.blt n 82 then (0, 0) else (bif Nat.blt n 83 then (0, 0) else (0, 0)))) else (bif Nat.blt n 87 then (bif Nat.blt n 85 then (0, 0) else (bif Nat.blt n 86 then (0, 0) else (0, 0))) else (bif Nat.blt n 89 then (bif Nat.blt n 88 then (0, 0) else (0, 0)) else (bif Nat.blt n 90 then (0, 0) else (0, 0))))) else (bif Nat.blt n 98 then (bif Nat.blt n 94 then (bif Nat.blt n 92 then (0, 0) else (bif Nat.blt n 93 then (0, 0) else (0, 0))) else (bif Nat.blt n 96 then (bif Nat.blt n 95 then (0, 0) else (0, 0)) else (bif Nat.blt n 97 then (0, 0) else (0, 0)))) else (bif Nat.blt n 101 then (bif Nat.blt n 99 then (0, 0) else (bif Nat.blt n 100 then (0, 0) else (0, 0))) else (bif Nat.blt n 103 then (bif Nat.blt n 102 then (0, 0) else (0, 0)) else (bif Nat.blt n 104 then (0, 0) else (0, 0)))))))) else (bif Nat.blt n 157 then (bif Nat.blt n 131 then (bif Nat.blt n 118 then (bif Nat.blt n 111 then (bif Nat.blt n 108 then (bif Nat.blt n 106 then (0, 0) else (bif Nat.blt n 107 then (0, 0) else (0, 0))) else (bif Nat.blt n 109 then (0, 0) else (bif Nat.blt n 110 then (0, 0) else (0, 0)))) else (bif Nat.blt n 114 then (bif Nat.blt n 112 then (0, 0) else (bif Nat.blt n 113 then (0, 0) else (0, 0))) else (bif Nat.blt n 116 then (bif Nat.blt n 115 then (0, 0) else (0, 0)) else (bif Nat.blt n 117 then (24, 1200) else (0, 0))))) else (bif Nat.blt n 124 then (bif Nat.blt n 121 then (bif Nat.blt n 119 then (0, 0) else (bif Nat.blt n 120 then (0, 0) else (0, 0))) else (bif Nat.blt n 122 then (0, 0) else (bif Nat.blt n 123 then (0, 0) else (0, 0)))) else (bif Nat.blt n 127 then (bif Nat.blt n 125 then (0, 0) else (bif Nat.blt n 126 then (0, 0) else (0, 0))) else (bif Nat.blt n 129 then (bif Nat.blt n 128 then (0, 0) else (0, 0)) else (bif Nat.blt n 130 then (0, 0) else (0, 0)))))) else (bif Nat.blt n 144 then (bif Nat.blt n 137 then (bif Nat.blt n 134 then (bif Nat.blt n 132 then (0, 0) else (bif Nat.blt n 133 then (0, 0) else (0, 0))) else (bif Nat.blt n 135 then (0, 0) else (bif Nat.blt n 136 then (0, 0) else (0, 0)))) else (bif Nat.blt n 140 then (bif Nat.blt n 138 then (0, 0) else (bif Nat.blt n 139 then (0, 0) else (0, 0))) else (bif Nat.blt n 142 then (bif Nat.blt n 141 then (0, 0) else (0, 0)) else (bif Nat.blt n 143 then (0, 0) else (0, 0))))) else (bif Nat.blt n 150 then (bif Nat.blt n 147 then (bif Nat.blt n 145 then (0, 0) else (bif Nat.blt n 146 then (0, 0) else (0, 0))) else (bif Nat.blt n 148 then (0, 0) else (bif Nat.blt n 149 then (0, 0) else (0, 0)))) else (bif Nat.blt n 153 then (bif Nat.blt n 151 then (0, 0) else (bif Nat.blt n 152 then (0, 0) else (0, 0))) else (bif Nat.blt n 155 then (bif Nat.blt n 154 then (0, 0) else (0, 0)) else (bif Nat.blt n 156 then (0, 0) else (0, 0))))))) else (bif Nat.blt n 183 then (bif Nat.blt n 170 then (bif Nat.blt n 163 then (bif Nat.blt n 160 then (bif Nat.blt n 158 then (0, 0) else (bif Nat.blt n 159 then (0, 0) else (0, 0))) else (bif Nat.blt n 161 then (0, 0) else (bif Nat.blt n 162 then (0, 0) else (0, 0)))) else (bif Nat.blt n 166 then (bif Nat.blt n 164 then (0, 0) else (bif Nat.blt n 165 then (0, 0) else (0, 0))) else (bif Nat.blt n 168 then (bif Nat.blt n 167 then (0, 0) else (0, 0)) else (bif Nat.blt n 169 then (0, 0) else (0, 0))))) else (bif Nat.blt n 176 then (bif Nat.blt n 173 then (bif Nat.blt n 171 then (0, 0) else (bif Nat.blt n 172 then (0, 0) else (0, 0))) else (bif Nat.blt n 174 then (0, 0) else (bif Nat.blt n 175 then (0, 0) else (0, 0)))) else (bif Nat.blt n 179 then (bif Nat.blt n 177 then (0, 0) else (bif Nat.blt n 178 then (0, 0) else (0, 0))) else (bif Nat.blt n 181 then (bif Nat.blt n 180 then (0, 0) else (0, 0)) else (bif Nat.blt n 182 then (0, 0) else (0, 0)))))) else (bif Nat.blt n 196 then (bif Nat.blt n 189 then (bif Nat.blt n 186 then (bif Nat.blt n 184 then (0, 0) else (bif Nat.blt n 185 then (0, 0) else (0, 0))) else (bif Nat.blt n 187 then (0, 0) else (bif Nat.blt n 188 then (0, 0) else (0, 0)))) else (bif Nat.blt n 192 then (bif Nat.blt n 190 then (0, 0) else (bif Nat.blt n 191 then (0, 0) else (0, 0))) else (bif Nat.blt n 194 then (bif Nat.blt n 193 then (0, 0) else (0, 0)) else (bif Nat.blt n 195 then (0, 0) else (0, 0))))) else (bif Nat.blt n 203 then (bif Nat.blt n 199 then (bif Nat.blt n 197 then (0, 0) else (bif Nat.blt n 198 then (0, 0) else (0, 0))) else (bif Nat.blt n 201 then (bif Nat.blt n 200 then (0, 0) else (0, 0)) else (bif Nat.blt n 202 then (0, 0) else (0, 0)))) else (bif Nat.blt n 206 then (bif Nat.blt n 204 then (0, 0) else (bif Nat.blt n 205 then (0, 0) else (0, 0))) else (bif Nat.blt n 208 then (bif Nat.blt n 207 then (0, 0) else (0, 0)) else (bif Nat.blt n 209 then (0, 0) else (600000, 7302250)))))))))
def mm_y (n : Nat) : MethodName := (bif Nat.blt n 105 then (bif Nat.blt n 52 then (bif Nat.blt n 26 then (bif Nat.blt n 13 then (bif Nat.blt n 6 then (bif Nat.blt n 3 then (bif Nat.blt n 1 then yX0_init else (bif Nat.blt n 2 then yX0_seat else yX0_forgetCitation)) else (bif Nat.blt n 4 then yX0_isMovedByOneMore else (bif Nat.blt n 5 then yX0_isToStand else yX0_clash))) else (bif Nat.blt n 9 then (bif Nat.blt n 7 then yX0_mattersTo else (bif Nat.blt n 8 then yX1_init else yX1_has)) else (bif Nat.blt n 11 then (bif Nat.blt n 10 then yX1_everyRuling else yX1_canBeCited) else (bif Nat.blt n 12 then yX1_citable else yX1_add)))) else (bif Nat.blt n 19 then (bif Nat.blt n 16 then (bif Nat.blt n 14 then yX1_cutTo else (bif Nat.blt n 15 then yX1_become else yX1_detail)) else (bif Nat.blt n 17 then yX1_citations else (bif Nat.blt n 18 then yX1_dependsOn else yX1_ofDay))) else (bif Nat.blt n 22 then (bif Nat.blt n 20 then yX1_othersOfItsDay else (bif Nat.blt n 21 then yX1_laterThan else yX1_countOf)) else (bif Nat.blt n 24 then (bif Nat.blt n 23 then yX1_likeness else yX1_decide) else (bif Nat.blt n 25 then yX1_verdictsBy else yX1_agrees))))) else (bif Nat.blt n 39 then (bif Nat.blt n 32 then (bif Nat.blt n 29 then (bif Nat.blt n 27 then yX2_init else (bif Nat.blt n 28 then yX2_read else yX2_skipBlanks)) else (bif Nat.blt n 30 then yX2_readItem else (bif Nat.blt n 31 then yX2_sign else yX2_letter))) else (bif Nat.blt n 35 then (bif Nat.blt n 33 then yX2_figure else (bif Nat.blt n 34 then yX2_readMarks else yX3_init)) else (bif Nat.blt n 37 then (bif Nat.blt n 36 then yX3_isMissing else yX3_has) else (bif Nat.blt n 38 then yX3_hasRun else yX3_value)))) else (bif Nat.blt n 45 then (bif Nat.blt n 42 then (bif Nat.blt n 40 then yX3_swap else (bif Nat.blt n 41 then yX3_renew else yX3_remove)) else (bif Nat.blt n 43 then yX3_sum else (bif Nat.blt n 44 then yX3_digestFrom else yX4_init))) else (bif Nat.blt n 48 then (bif Nat.blt n 46 then yX4_find else (bif Nat.blt n 47 then yX4_first else yX4_surelyStanding)) else (bif Nat.blt n 50 then (bif Nat.blt n 49 then yX4_surelyFalling else yX4_waysWith) else (bif Nat.blt n 51 then yX4_meets else yX5_init)))))) else (bif Nat.blt n 78 then (bif Nat.blt n 65 then (bif Nat.blt n 58 then (bif Nat.blt n 55 then (bif Nat.blt n 53 then yX5_row else (bif Nat.blt n 54 then yX5_lay else yX5_at)) else (bif Nat.blt n 56 then yX5_tear else (bif Nat.blt n 57 then yX5_copy else yX5_mean))) else (bif Nat.blt n 61 then (bif Nat.blt n 59 then yX5_text else (bif Nat.blt n 60 then yX5_put else yX5_fault)) else (bif Nat.blt n 63 then (bif Nat.blt n 62 then yX5_court else yX5_ruling) else (bif Nat.blt n 64 then yX5_mark else yX5_reverse)))) else (bif Nat.blt n 71 then (bif Nat.blt n 68 then (bif Nat.blt n 66 then yX5_marks else (bif Nat.blt n 67 then yX5_file else yX5_strike)) else (bif Nat.blt n 69 then yX5_keep else (bif Nat.blt n 70 then yX5_on else yX5_due))) else (bif Nat.blt n 74 then (bif Nat.blt n 72 then yX5_ways else (bif Nat.blt n 73 then yX5_nth else yX5_sure)) else (bif Nat.blt n 76 then (bif Nat.blt n 75 then yX5_odds else yX5_together) else (bif Nat.blt n 77 then yX5_till else yX5_flips))))) else (bif Nat.blt n 91 then (bif Nat.blt n 84 then (bif Nat.blt n 81 then (bif Nat.blt n 79 then yX5_jam else (bif Nat.blt n 80 then yX5_fell else yX5_guard)) else (bif Nat.blt n 82 then yX5_settle else (bif Nat.blt n 83 then yX5_matter else yX5_judge))) else (bif Nat.blt n 87 then (bif Nat.blt n 85 then yX5_like else (bif Nat.blt n 86 then yX5_verdict else yX5_surely)) else (bif Nat.blt n 89 then (bif Nat.blt n 88 then yX5_freed else yX5_code) else (bif Nat.blt n 90 then yX5_kinds else yX5_forged)))) else (bif Nat.blt n 98 then (bif Nat.blt n 94 then (bif Nat.blt n 92 then yX5_torn else (bif Nat.blt n 93 then yX5_lots else yX5_asked)) else (bif Nat.blt n 96 then (bif Nat.blt n 95 then yX5_upper else yX5_lower) else (bif Nat.blt n 97 then yX5_count else yX5_finding))) else (bif Nat.blt n 101 then (bif Nat.blt n 99 then yX5_findings else (bif Nat.blt n 100 then yX5_digest else yX5_within)) else (bif Nat.blt n 103 then (bif Nat.blt n 102 then yX5_holds else yX5_isOfKind) else (bif Nat.blt n 104 then yX5_greatestDivisor else yX5_refuse))))))) else (bif Nat.blt n 157 then (bif Nat.blt n 131 then (bif Nat.blt n 118 then (bif Nat.blt n 111 then (bif Nat.blt n 108 then (bif Nat.blt n 106 then yX5_tell else (bif Nat.blt n 107 then yX5_renewed else yX5_refusalOfPlace)) else (bif Nat.blt n 109 then yX5_isKept else (bif Nat.blt n 110 then yX5_findWays else yX5_fewest))) else (bif Nat.blt n 114 then (bif Nat.blt n 112 then yX5_canReach else (bif Nat.blt n 113 then yX5_changedWithout else yX5_fileByLot)) else (bif Nat.blt n 116 then (bif Nat.blt n 115 then yX5_countOf else yX5_there) else (bif Nat.blt n 117 then yX6_init else yX6_in)))) else (bif Nat.blt n 124 then (bif Nat.blt n 121 then (bif Nat.blt n 119 then yX6_has else (bif Nat.blt n 120 then yX6_ones else yX6_finds)) else (bif Nat.blt n 122 then yX6_tells else (bif Nat.blt n 123 then yX6_isRow else yX6_isText))) else (bif Nat.blt n 127 then (bif Nat.blt n 125 then yX6_row else (bif Nat.blt n 126 then yX6_lay else yX6_at)) else (bif Nat.blt n 129 then (bif Nat.blt n 128 then yX6_tear else yX6_isPart) else (bif Nat.blt n 130 then yX6_copy else yX6_mean))))) else (bif Nat.blt n 144 then (bif Nat.blt n 137 then (bif Nat.blt n 134 then (bif Nat.blt n 132 then yX6_text else (bif Nat.blt n 133 then yX6_put else yX6_byteAt)) else (bif Nat.blt n 135 then yX6_kindOf else (bif Nat.blt n 136 then yX6_figure else yX6_faults))) else (bif Nat.blt n 140 then (bif Nat.blt n 138 then yX6_readsCitation else (bif Nat.blt n 139 then yX6_readsItem else yX6_reads)) else (bif Nat.blt n 142 then (bif Nat.blt n 141 then yX6_fault else yX6_adds) else (bif Nat.blt n 143 then yX6_court else yX6_isRuling)))) else (bif Nat.blt n 150 then (bif Nat.blt n 147 then (bif Nat.blt n 145 then yX6_isSet else (bif Nat.blt n 146 then yX6_citing else yX6_told)) else (bif Nat.blt n 148 then yX6_ruling else (bif Nat.blt n 149 then yX6_isOf else yX6_depends))) else (bif Nat.blt n 153 then (bif Nat.blt n 151 then yX6_ofItsDay else (bif Nat.blt n 152 then yX6_mark else yX6_reverse)) else (bif Nat.blt n 155 then (bif Nat.blt n 154 then yX6_marks else yX6_file) else (bif Nat.blt n 156 then yX6_strike else yX6_keep)))))) else (bif Nat.blt n 183 then (bif Nat.blt n 170 then (bif Nat.blt n 163 then (bif Nat.blt n 160 then (bif Nat.blt n 158 then yX6_on else (bif Nat.blt n 159 then yX6_all else yX6_isDue)) else (bif Nat.blt n 161 then yX6_dueBy else (bif Nat.blt n 162 then yX6_isWay else yX6_due))) else (bif Nat.blt n 166 then (bif Nat.blt n 164 then yX6_wayMany else (bif Nat.blt n 165 then yX6_firstWay else yX6_standsIn)) else (bif Nat.blt n 168 then (bif Nat.blt n 167 then yX6_ways else yX6_nth) else (bif Nat.blt n 169 then yX6_findsSure else yX6_sure)))) else (bif Nat.blt n 176 then (bif Nat.blt n 173 then (bif Nat.blt n 171 then yX6_odds else (bif Nat.blt n 172 then yX6_together else yX6_upTo)) else (bif Nat.blt n 174 then yX6_till else (bif Nat.blt n 175 then yX6_flips else yX6_jam))) else (bif Nat.blt n 179 then (bif Nat.blt n 177 then yX6_isReached else (bif Nat.blt n 178 then yX6_power else yX6_strikes)) else (bif Nat.blt n 181 then (bif Nat.blt n 180 then yX6_files else yX6_fell) else (bif Nat.blt n 182 then yX6_guard else yX6_settle))))) else (bif Nat.blt n 196 then (bif Nat.blt n 189 then (bif Nat.blt n 186 then (bif Nat.blt n 184 then yX6_otherwise else (bif Nat.blt n 185 then yX6_matter else yX6_judge)) else (bif Nat.blt n 187 then yX6_likeness else (bif Nat.blt n 188 then yX6_like else yX6_verdictBy))) else (bif Nat.blt n 192 then (bif Nat.blt n 190 then yX6_verdict else (bif Nat.blt n 191 then yX6_surely else yX6_freed)) else (bif Nat.blt n 194 then (bif Nat.blt n 193 then yX6_agrees else yX6_code) else (bif Nat.blt n 195 then yX6_kinds else yX6_forged)))) else (bif Nat.blt n 203 then (bif Nat.blt n 199 then (bif Nat.blt n 197 then yX6_torn else (bif Nat.blt n 198 then yX6_ahead else yX6_nthAhead)) else (bif Nat.blt n 201 then (bif Nat.blt n 200 then yX6_lots else yX6_asked) else (bif Nat.blt n 202 then yX6_upper else yX6_lower))) else (bif Nat.blt n 206 then (bif Nat.blt n 204 then yX6_counted else (bif Nat.blt n 205 then yX6_count else yX6_finding)) else (bif Nat.blt n 208 then (bif Nat.blt n 207 then yX6_findings else yX6_digest) else (bif Nat.blt n 209 then yJ6_bitCount_0f7a4 else yL_law))))))))
def mm_rc (n : Nat) : Nat := (bif Nat.blt n 105 then (bif Nat.blt n 52 then (bif Nat.blt n 26 then (bif Nat.blt n 13 then (bif Nat.blt n 6 then (bif Nat.blt n 3 then (bif Nat.blt n 1 then 0 else (bif Nat.blt n 2 then 0 else 0)) else (bif Nat.blt n 4 then 0 else (bif Nat.blt n 5 then 0 else 0))) else (bif Nat.blt n 9 then (bif Nat.blt n 7 then 0 else (bif Nat.blt n 8 then 1 else 1)) else (bif Nat.blt n 11 then (bif Nat.blt n 10 then 1 else 1) else (bif Nat.blt n 12 then 1 else 1)))) else (bif Nat.blt n 19 then (bif Nat.blt n 16 then (bif Nat.blt n 14 then 1 else (bif Nat.blt n 15 then 1 else 1)) else (bif Nat.blt n 17 then 1 else (bif Nat.blt n 18 then 1 else 1))) else (bif Nat.blt n 22 then (bif Nat.blt n 20 then 1 else (bif Nat.blt n 21 then 1 else 1)) else (bif Nat.blt n 24 then (bif Nat.blt n 23 then 1 else 1) else (bif Nat.blt n 25 then 1 else 1))))) else (bif Nat.blt n 39 then (bif Nat.blt n 32 then (bif Nat.blt n 29 then (bif Nat.blt n 27 then 2 else (bif Nat.blt n 28 then 2 else 2)) else (bif Nat.blt n 30 then 2 else (bif Nat.blt n 31 then 2 else 2))) else (bif Nat.blt n 35 then (bif Nat.blt n 33 then 2 else (bif Nat.blt n 34 then 2 else 3)) else (bif Nat.blt n 37 then (bif Nat.blt n 36 then 3 else 3) else (bif Nat.blt n 38 then 3 else 3)))) else (bif Nat.blt n 45 then (bif Nat.blt n 42 then (bif Nat.blt n 40 then 3 else (bif Nat.blt n 41 then 3 else 3)) else (bif Nat.blt n 43 then 3 else (bif Nat.blt n 44 then 3 else 4))) else (bif Nat.blt n 48 then (bif Nat.blt n 46 then 4 else (bif Nat.blt n 47 then 4 else 4)) else (bif Nat.blt n 50 then (bif Nat.blt n 49 then 4 else 4) else (bif Nat.blt n 51 then 4 else 5)))))) else (bif Nat.blt n 78 then (bif Nat.blt n 65 then (bif Nat.blt n 58 then (bif Nat.blt n 55 then (bif Nat.blt n 53 then 5 else (bif Nat.blt n 54 then 5 else 5)) else (bif Nat.blt n 56 then 5 else (bif Nat.blt n 57 then 5 else 5))) else (bif Nat.blt n 61 then (bif Nat.blt n 59 then 5 else (bif Nat.blt n 60 then 5 else 5)) else (bif Nat.blt n 63 then (bif Nat.blt n 62 then 5 else 5) else (bif Nat.blt n 64 then 5 else 5)))) else (bif Nat.blt n 71 then (bif Nat.blt n 68 then (bif Nat.blt n 66 then 5 else (bif Nat.blt n 67 then 5 else 5)) else (bif Nat.blt n 69 then 5 else (bif Nat.blt n 70 then 5 else 5))) else (bif Nat.blt n 74 then (bif Nat.blt n 72 then 5 else (bif Nat.blt n 73 then 5 else 5)) else (bif Nat.blt n 76 then (bif Nat.blt n 75 then 5 else 5) else (bif Nat.blt n 77 then 5 else 5))))) else (bif Nat.blt n 91 then (bif Nat.blt n 84 then (bif Nat.blt n 81 then (bif Nat.blt n 79 then 5 else (bif Nat.blt n 80 then 5 else 5)) else (bif Nat.blt n 82 then 5 else (bif Nat.blt n 83 then 5 else 5))) else (bif Nat.blt n 87 then (bif Nat.blt n 85 then 5 else (bif Nat.blt n 86 then 5 else 5)) else (bif Nat.blt n 89 then (bif Nat.blt n 88 then 5 else 5) else (bif Nat.blt n 90 then 5 else 5)))) else (bif Nat.blt n 98 then (bif Nat.blt n 94 then (bif Nat.blt n 92 then 5 else (bif Nat.blt n 93 then 5 else 5)) else (bif Nat.blt n 96 then (bif Nat.blt n 95 then 5 else 5) else (bif Nat.blt n 97 then 5 else 5))) else (bif Nat.blt n 101 then (bif Nat.blt n 99 then 5 else (bif Nat.blt n 100 then 5 else 5)) else (bif Nat.blt n 103 then (bif Nat.blt n 102 then 5 else 5) else (bif Nat.blt n 104 then 5 else 5))))))) else (bif Nat.blt n 157 then (bif Nat.blt n 131 then (bif Nat.blt n 118 then (bif Nat.blt n 111 then (bif Nat.blt n 108 then (bif Nat.blt n 106 then 5 else (bif Nat.blt n 107 then 5 else 5)) else (bif Nat.blt n 109 then 5 else (bif Nat.blt n 110 then 5 else 5))) else (bif Nat.blt n 114 then (bif Nat.blt n 112 then 5 else (bif Nat.blt n 113 then 5 else 5)) else (bif Nat.blt n 116 then (bif Nat.blt n 115 then 5 else 5) else (bif Nat.blt n 117 then 6 else 6)))) else (bif Nat.blt n 124 then (bif Nat.blt n 121 then (bif Nat.blt n 119 then 6 else (bif Nat.blt n 120 then 6 else 6)) else (bif Nat.blt n 122 then 6 else (bif Nat.blt n 123 then 6 else 6))) else (bif Nat.blt n 127 then (bif Nat.blt n 125 then 6 else (bif Nat.blt n 126 then 6 else 6)) else (bif Nat.blt n 129 then (bif Nat.blt n 128 then 6 else 6) else (bif Nat.blt n 130 then 6 else 6))))) else (bif Nat.blt n 144 then (bif Nat.blt n 137 then (bif Nat.blt n 134 then (bif Nat.blt n 132 then 6 else (bif Nat.blt n 133 then 6 else 6)) else (bif Nat.blt n 135 then 6 else (bif Nat.blt n 136 then 6 else 6))) else (bif Nat.blt n 140 then (bif Nat.blt n 138 then 6 else (bif Nat.blt n 139 then 6 else 6)) else (bif Nat.blt n 142 then (bif Nat.blt n 141 then 6 else 6) else (bif Nat.blt n 143 then 6 else 6)))) else (bif Nat.blt n 150 then (bif Nat.blt n 147 then (bif Nat.blt n 145 then 6 else (bif Nat.blt n 146 then 6 else 6)) else (bif Nat.blt n 148 then 6 else (bif Nat.blt n 149 then 6 else 6))) else (bif Nat.blt n 153 then (bif Nat.blt n 151 then 6 else (bif Nat.blt n 152 then 6 else 6)) else (bif Nat.blt n 155 then (bif Nat.blt n 154 then 6 else 6) else (bif Nat.blt n 156 then 6 else 6)))))) else (bif Nat.blt n 183 then (bif Nat.blt n 170 then (bif Nat.blt n 163 then (bif Nat.blt n 160 then (bif Nat.blt n 158 then 6 else (bif Nat.blt n 159 then 6 else 6)) else (bif Nat.blt n 161 then 6 else (bif Nat.blt n 162 then 6 else 6))) else (bif Nat.blt n 166 then (bif Nat.blt n 164 then 6 else (bif Nat.blt n 165 then 6 else 6)) else (bif Nat.blt n 168 then (bif Nat.blt n 167 then 6 else 6) else (bif Nat.blt n 169 then 6 else 6)))) else (bif Nat.blt n 176 then (bif Nat.blt n 173 then (bif Nat.blt n 171 then 6 else (bif Nat.blt n 172 then 6 else 6)) else (bif Nat.blt n 174 then 6 else (bif Nat.blt n 175 then 6 else 6))) else (bif Nat.blt n 179 then (bif Nat.blt n 177 then 6 else (bif Nat.blt n 178 then 6 else 6)) else (bif Nat.blt n 181 then (bif Nat.blt n 180 then 6 else 6) else (bif Nat.blt n 182 then 6 else 6))))) else (bif Nat.blt n 196 then (bif Nat.blt n 189 then (bif Nat.blt n 186 then (bif Nat.blt n 184 then 6 else (bif Nat.blt n 185 then 6 else 6)) else (bif Nat.blt n 187 then 6 else (bif Nat.blt n 188 then 6 else 6))) else (bif Nat.blt n 192 then (bif Nat.blt n 190 then 6 else (bif Nat.blt n 191 then 6 else 6)) else (bif Nat.blt n 194 then (bif Nat.blt n 193 then 6 else 6) else (bif Nat.blt n 195 then 6 else 6)))) else (bif Nat.blt n 203 then (bif Nat.blt n 199 then (bif Nat.blt n 197 then 6 else (bif Nat.blt n 198 then 6 else 6)) else (bif Nat.blt n 201 then (bif Nat.blt n 200 then 6 else 6) else (bif Nat.blt n 202 then 6 else 6))) else (bif Nat.blt n 206 then (bif Nat.blt n 204 then 6 else (bif Nat.blt n 205 then 6 else 6)) else (bif Nat.blt n 208 then (bif Nat.blt n 207 then 6 else 6) else (bif Nat.blt n 209 then 99 else 99))))))))
def mm_in (n : Nat) : Bool := (bif Nat.blt n 105 then (bif Nat.blt n 52 then (bif Nat.blt n 26 then (bif Nat.blt n 13 then (bif Nat.blt n 6 then (bif Nat.blt n 3 then (bif Nat.blt n 1 then true else (bif Nat.blt n 2 then false else false)) else (bif Nat.blt n 4 then false else (bif Nat.blt n 5 then false else false))) else (bif Nat.blt n 9 then (bif Nat.blt n 7 then false else (bif Nat.blt n 8 then true else false)) else (bif Nat.blt n 11 then (bif Nat.blt n 10 then false else false) else (bif Nat.blt n 12 then false else false)))) else (bif Nat.blt n 19 then (bif Nat.blt n 16 then (bif Nat.blt n 14 then false else (bif Nat.blt n 15 then false else false)) else (bif Nat.blt n 17 then false else (bif Nat.blt n 18 then false else false))) else (bif Nat.blt n 22 then (bif Nat.blt n 20 then false else (bif Nat.blt n 21 then false else false)) else (bif Nat.blt n 24 then (bif Nat.blt n 23 then false else false) else (bif Nat.blt n 25 then false else false))))) else (bif Nat.blt n 39 then (bif Nat.blt n 32 then (bif Nat.blt n 29 then (bif Nat.blt n 27 then true else (bif Nat.blt n 28 then false else false)) else (bif Nat.blt n 30 then false else (bif Nat.blt n 31 then false else false))) else (bif Nat.blt n 35 then (bif Nat.blt n 33 then false else (bif Nat.blt n 34 then false else true)) else (bif Nat.blt n 37 then (bif Nat.blt n 36 then false else false) else (bif Nat.blt n 38 then false else false)))) else (bif Nat.blt n 45 then (bif Nat.blt n 42 then (bif Nat.blt n 40 then false else (bif Nat.blt n 41 then false else false)) else (bif Nat.blt n 43 then false else (bif Nat.blt n 44 then false else true))) else (bif Nat.blt n 48 then (bif Nat.blt n 46 then false else (bif Nat.blt n 47 then false else false)) else (bif Nat.blt n 50 then (bif Nat.blt n 49 then false else false) else (bif Nat.blt n 51 then false else true)))))) else (bif Nat.blt n 78 then (bif Nat.blt n 65 then (bif Nat.blt n 58 then (bif Nat.blt n 55 then (bif Nat.blt n 53 then false else (bif Nat.blt n 54 then false else false)) else (bif Nat.blt n 56 then false else (bif Nat.blt n 57 then false else false))) else (bif Nat.blt n 61 then (bif Nat.blt n 59 then false else (bif Nat.blt n 60 then false else false)) else (bif Nat.blt n 63 then (bif Nat.blt n 62 then false else false) else (bif Nat.blt n 64 then false else false)))) else (bif Nat.blt n 71 then (bif Nat.blt n 68 then (bif Nat.blt n 66 then false else (bif Nat.blt n 67 then false else false)) else (bif Nat.blt n 69 then false else (bif Nat.blt n 70 then false else false))) else (bif Nat.blt n 74 then (bif Nat.blt n 72 then false else (bif Nat.blt n 73 then false else false)) else (bif Nat.blt n 76 then (bif Nat.blt n 75 then false else false) else (bif Nat.blt n 77 then false else false))))) else (bif Nat.blt n 91 then (bif Nat.blt n 84 then (bif Nat.blt n 81 then (bif Nat.blt n 79 then false else (bif Nat.blt n 80 then false else false)) else (bif Nat.blt n 82 then false else (bif Nat.blt n 83 then false else false))) else (bif Nat.blt n 87 then (bif Nat.blt n 85 then false else (bif Nat.blt n 86 then false else false)) else (bif Nat.blt n 89 then (bif Nat.blt n 88 then false else false) else (bif Nat.blt n 90 then false else false)))) else (bif Nat.blt n 98 then (bif Nat.blt n 94 then (bif Nat.blt n 92 then false else (bif Nat.blt n 93 then false else false)) else (bif Nat.blt n 96 then (bif Nat.blt n 95 then false else false) else (bif Nat.blt n 97 then false else false))) else (bif Nat.blt n 101 then (bif Nat.blt n 99 then false else (bif Nat.blt n 100 then false else false)) else (bif Nat.blt n 103 then (bif Nat.blt n 102 then false else false) else (bif Nat.blt n 104 then false else false))))))) else (bif Nat.blt n 157 then (bif Nat.blt n 131 then (bif Nat.blt n 118 then (bif Nat.blt n 111 then (bif Nat.blt n 108 then (bif Nat.blt n 106 then false else (bif Nat.blt n 107 then false else false)) else (bif Nat.blt n 109 then false else (bif Nat.blt n 110 then false else false))) else (bif Nat.blt n 114 then (bif Nat.blt n 112 then false else (bif Nat.blt n 113 then false else false)) else (bif Nat.blt n 116 then (bif Nat.blt n 115 then false else false) else (bif Nat.blt n 117 then true else false)))) else (bif Nat.blt n 124 then (bif Nat.blt n 121 then (bif Nat.blt n 119 then false else (bif Nat.blt n 120 then false else false)) else (bif Nat.blt n 122 then false else (bif Nat.blt n 123 then false else false))) else (bif Nat.blt n 127 then (bif Nat.blt n 125 then false else (bif Nat.blt n 126 then false else false)) else (bif Nat.blt n 129 then (bif Nat.blt n 128 then false else false) else (bif Nat.blt n 130 then false else false))))) else (bif Nat.blt n 144 then (bif Nat.blt n 137 then (bif Nat.blt n 134 then (bif Nat.blt n 132 then false else (bif Nat.blt n 133 then false else false)) else (bif Nat.blt n 135 then false else (bif Nat.blt n 136 then false else false))) else (bif Nat.blt n 140 then (bif Nat.blt n 138 then false else (bif Nat.blt n 139 then false else false)) else (bif Nat.blt n 142 then (bif Nat.blt n 141 then false else false) else (bif Nat.blt n 143 then false else false)))) else (bif Nat.blt n 150 then (bif Nat.blt n 147 then (bif Nat.blt n 145 then false else (bif Nat.blt n 146 then false else false)) else (bif Nat.blt n 148 then false else (bif Nat.blt n 149 then false else false))) else (bif Nat.blt n 153 then (bif Nat.blt n 151 then false else (bif Nat.blt n 152 then false else false)) else (bif Nat.blt n 155 then (bif Nat.blt n 154 then false else false) else (bif Nat.blt n 156 then false else false)))))) else (bif Nat.blt n 183 then (bif Nat.blt n 170 then (bif Nat.blt n 163 then (bif Nat.blt n 160 then (bif Nat.blt n 158 then false else (bif Nat.blt n 159 then false else false)) else (bif Nat.blt n 161 then false else (bif Nat.blt n 162 then false else false))) else (bif Nat.blt n 166 then (bif Nat.blt n 164 then false else (bif Nat.blt n 165 then false else false)) else (bif Nat.blt n 168 then (bif Nat.blt n 167 then false else false) else (bif Nat.blt n 169 then false else false)))) else (bif Nat.blt n 176 then (bif Nat.blt n 173 then (bif Nat.blt n 171 then false else (bif Nat.blt n 172 then false else false)) else (bif Nat.blt n 174 then false else (bif Nat.blt n 175 then false else false))) else (bif Nat.blt n 179 then (bif Nat.blt n 177 then false else (bif Nat.blt n 178 then false else false)) else (bif Nat.blt n 181 then (bif Nat.blt n 180 then false else false) else (bif Nat.blt n 182 then false else false))))) else (bif Nat.blt n 196 then (bif Nat.blt n 189 then (bif Nat.blt n 186 then (bif Nat.blt n 184 then false else (bif Nat.blt n 185 then false else false)) else (bif Nat.blt n 187 then false else (bif Nat.blt n 188 then false else false))) else (bif Nat.blt n 192 then (bif Nat.blt n 190 then false else (bif Nat.blt n 191 then false else false)) else (bif Nat.blt n 194 then (bif Nat.blt n 193 then false else false) else (bif Nat.blt n 195 then false else false)))) else (bif Nat.blt n 203 then (bif Nat.blt n 199 then (bif Nat.blt n 197 then false else (bif Nat.blt n 198 then false else false)) else (bif Nat.blt n 201 then (bif Nat.blt n 200 then false else false) else (bif Nat.blt n 202 then false else false))) else (bif Nat.blt n 206 then (bif Nat.blt n 204 then false else (bif Nat.blt n 205 then false else false)) else (bif Nat.blt n 208 then (bif Nat.blt n 207 then false else false) else (bif Nat.blt n 209 then false else false))))))))
abbrev k_X0_init : Nat := 0
abbrev k_X0_seat : Nat := 1
abbrev k_X0_forgetCitation : Nat := 2
abbrev k_X0_isMovedByOneMore : Nat := 3
abbrev k_X0_isToStand : Nat := 4
abbrev k_X0_clash : Nat := 5
abbrev k_X0_mattersTo : Nat := 6
abbrev k_X1_init : Nat := 7
abbrev k_X1_has : Nat := 8
abbrev k_X1_everyRuling : Nat := 9
abbrev k_X1_canBeCited : Nat := 10
abbrev k_X1_citable : Nat := 11
abbrev k_X1_add : Nat := 12
abbrev k_X1_cutTo : Nat := 13
abbrev k_X1_become : Nat := 14
abbrev k_X1_detail : Nat := 15
abbrev k_X1_citations : Nat := 16
abbrev k_X1_dependsOn : Nat := 17
abbrev k_X1_ofDay : Nat := 18
abbrev k_X1_othersOfItsDay : Nat := 19
abbrev k_X1_laterThan : Nat := 20
abbrev k_X1_countOf : Nat := 21
abbrev k_X1_likeness : Nat := 22
abbrev k_X1_decide : Nat := 23
abbrev k_X1_verdictsBy : Nat := 24
abbrev k_X1_agrees : Nat := 25
abbrev k_X2_init : Nat := 26
abbrev k_X2_read : Nat := 27
abbrev k_X2_skipBlanks : Nat := 28
abbrev k_X2_readItem : Nat := 29
abbrev k_X2_sign : Nat := 30
abbrev k_X2_letter : Nat := 31
abbrev k_X2_figure : Nat := 32
abbrev k_X2_readMarks : Nat := 33
abbrev k_X3_init : Nat := 34
abbrev k_X3_isMissing : Nat := 35
abbrev k_X3_has : Nat := 36
abbrev k_X3_hasRun : Nat := 37
abbrev k_X3_value : Nat := 38
abbrev k_X3_swap : Nat := 39
abbrev k_X3_renew : Nat := 40
abbrev k_X3_remove : Nat := 41
abbrev k_X3_sum : Nat := 42
abbrev k_X3_digestFrom : Nat := 43
abbrev k_X4_init : Nat := 44
abbrev k_X4_find : Nat := 45
abbrev k_X4_first : Nat := 46
abbrev k_X4_surelyStanding : Nat := 47
abbrev k_X4_surelyFalling : Nat := 48
abbrev k_X4_waysWith : Nat := 49
abbrev k_X4_meets : Nat := 50
abbrev k_X5_init : Nat := 51
abbrev k_X5_row : Nat := 52
abbrev k_X5_lay : Nat := 53
abbrev k_X5_at : Nat := 54
abbrev k_X5_tear : Nat := 55
abbrev k_X5_copy : Nat := 56
abbrev k_X5_mean : Nat := 57
abbrev k_X5_text : Nat := 58
abbrev k_X5_put : Nat := 59
abbrev k_X5_fault : Nat := 60
abbrev k_X5_court : Nat := 61
abbrev k_X5_ruling : Nat := 62
abbrev k_X5_mark : Nat := 63
abbrev k_X5_reverse : Nat := 64
abbrev k_X5_marks : Nat := 65
abbrev k_X5_file : Nat := 66
abbrev k_X5_strike : Nat := 67
abbrev k_X5_keep : Nat := 68
abbrev k_X5_on : Nat := 69
abbrev k_X5_due : Nat := 70
abbrev k_X5_ways : Nat := 71
abbrev k_X5_nth : Nat := 72
abbrev k_X5_sure : Nat := 73
abbrev k_X5_odds : Nat := 74
abbrev k_X5_together : Nat := 75
abbrev k_X5_till : Nat := 76
abbrev k_X5_flips : Nat := 77
abbrev k_X5_jam : Nat := 78
abbrev k_X5_fell : Nat := 79
abbrev k_X5_guard : Nat := 80
abbrev k_X5_settle : Nat := 81
abbrev k_X5_matter : Nat := 82
abbrev k_X5_judge : Nat := 83
abbrev k_X5_like : Nat := 84
abbrev k_X5_verdict : Nat := 85
abbrev k_X5_surely : Nat := 86
abbrev k_X5_freed : Nat := 87
abbrev k_X5_code : Nat := 88
abbrev k_X5_kinds : Nat := 89
abbrev k_X5_forged : Nat := 90
abbrev k_X5_torn : Nat := 91
abbrev k_X5_lots : Nat := 92
abbrev k_X5_asked : Nat := 93
abbrev k_X5_upper : Nat := 94
abbrev k_X5_lower : Nat := 95
abbrev k_X5_count : Nat := 96
abbrev k_X5_finding : Nat := 97
abbrev k_X5_findings : Nat := 98
abbrev k_X5_digest : Nat := 99
abbrev k_X5_within : Nat := 100
abbrev k_X5_holds : Nat := 101
abbrev k_X5_isOfKind : Nat := 102
abbrev k_X5_greatestDivisor : Nat := 103
abbrev k_X5_refuse : Nat := 104
abbrev k_X5_tell : Nat := 105
abbrev k_X5_renewed : Nat := 106
abbrev k_X5_refusalOfPlace : Nat := 107
abbrev k_X5_isKept : Nat := 108
abbrev k_X5_findWays : Nat := 109
abbrev k_X5_fewest : Nat := 110
abbrev k_X5_canReach : Nat := 111
abbrev k_X5_changedWithout : Nat := 112
abbrev k_X5_fileByLot : Nat := 113
abbrev k_X5_countOf : Nat := 114
abbrev k_X5_there : Nat := 115
abbrev k_X6_init : Nat := 116
abbrev k_X6_in : Nat := 117
abbrev k_X6_has : Nat := 118
abbrev k_X6_ones : Nat := 119
abbrev k_X6_finds : Nat := 120
abbrev k_X6_tells : Nat := 121
abbrev k_X6_isRow : Nat := 122
abbrev k_X6_isText : Nat := 123
abbrev k_X6_row : Nat := 124
abbrev k_X6_lay : Nat := 125
abbrev k_X6_at : Nat := 126
abbrev k_X6_tear : Nat := 127
abbrev k_X6_isPart : Nat := 128
abbrev k_X6_copy : Nat := 129
abbrev k_X6_mean : Nat := 130
abbrev k_X6_text : Nat := 131
abbrev k_X6_put : Nat := 132
abbrev k_X6_byteAt : Nat := 133
abbrev k_X6_kindOf : Nat := 134
abbrev k_X6_figure : Nat := 135
abbrev k_X6_faults : Nat := 136
abbrev k_X6_readsCitation : Nat := 137
abbrev k_X6_readsItem : Nat := 138
abbrev k_X6_reads : Nat := 139
abbrev k_X6_fault : Nat := 140
abbrev k_X6_adds : Nat := 141
abbrev k_X6_court : Nat := 142
abbrev k_X6_isRuling : Nat := 143
abbrev k_X6_isSet : Nat := 144
abbrev k_X6_citing : Nat := 145
abbrev k_X6_told : Nat := 146
abbrev k_X6_ruling : Nat := 147
abbrev k_X6_isOf : Nat := 148
abbrev k_X6_depends : Nat := 149
abbrev k_X6_ofItsDay : Nat := 150
abbrev k_X6_mark : Nat := 151
abbrev k_X6_reverse : Nat := 152
abbrev k_X6_marks : Nat := 153
abbrev k_X6_file : Nat := 154
abbrev k_X6_strike : Nat := 155
abbrev k_X6_keep : Nat := 156
abbrev k_X6_on : Nat := 157
abbrev k_X6_all : Nat := 158
abbrev k_X6_isDue : Nat := 159
abbrev k_X6_dueBy : Nat := 160
abbrev k_X6_isWay : Nat := 161
abbrev k_X6_due : Nat := 162
abbrev k_X6_wayMany : Nat := 163
abbrev k_X6_firstWay : Nat := 164
abbrev k_X6_standsIn : Nat := 165
abbrev k_X6_ways : Nat := 166
abbrev k_X6_nth : Nat := 167
abbrev k_X6_findsSure : Nat := 168
abbrev k_X6_sure : Nat := 169
abbrev k_X6_odds : Nat := 170
abbrev k_X6_together : Nat := 171
abbrev k_X6_upTo : Nat := 172
abbrev k_X6_till : Nat := 173
abbrev k_X6_flips : Nat := 174
abbrev k_X6_jam : Nat := 175
abbrev k_X6_isReached : Nat := 176
abbrev k_X6_power : Nat := 177
abbrev k_X6_strikes : Nat := 178
abbrev k_X6_files : Nat := 179
abbrev k_X6_fell : Nat := 180
abbrev k_X6_guard : Nat := 181
abbrev k_X6_settle : Nat := 182
abbrev k_X6_otherwise : Nat := 183
abbrev k_X6_matter : Nat := 184
abbrev k_X6_judge : Nat := 185
abbrev k_X6_likeness : Nat := 186
abbrev k_X6_like : Nat := 187
abbrev k_X6_verdictBy : Nat := 188
abbrev k_X6_verdict : Nat := 189
abbrev k_X6_surely : Nat := 190
abbrev k_X6_freed : Nat := 191
abbrev k_X6_agrees : Nat := 192
abbrev k_X6_code : Nat := 193
abbrev k_X6_kinds : Nat := 194
abbrev k_X6_forged : Nat := 195
abbrev k_X6_torn : Nat := 196
abbrev k_X6_ahead : Nat := 197
abbrev k_X6_nthAhead : Nat := 198
abbrev k_X6_lots : Nat := 199
abbrev k_X6_asked : Nat := 200
abbrev k_X6_upper : Nat := 201
abbrev k_X6_lower : Nat := 202
abbrev k_X6_counted : Nat := 203
abbrev k_X6_count : Nat := 204
abbrev k_X6_finding : Nat := 205
abbrev k_X6_findings : Nat := 206
abbrev k_X6_digest : Nat := 207
abbrev k_J6_bitCount_0f7a4 : Nat := 208
abbrev k_L_law : Nat := 209
def mm_tg (n : Nat) : List (Int32 × Nat) := bif Nat.beq n 4 then [(1, 25), (2, 40), (3, 47), (4, 60), (5, 82)] else bif Nat.beq n 15 then [(0, 2), (1, 7), (2, 12), (3, 17), (4, 22), (5, 27)] else bif Nat.beq n 63 then [(1, 27), (2, 32), (3, 38), (4, 44)] else bif Nat.beq n 114 then [(5, 2), (6, 6), (7, 10)] else bif Nat.beq n 159 then [(1, 101), (2, 109), (3, 116), (4, 124), (5, 134)] else bif Nat.beq n 209 then [(0, 22), (1, 49), (2, 86), (3, 113), (4, 130), (5, 187), (6, 204), (7, 231), (8, 268), (9, 285), (10, 302), (11, 329), (12, 356), (13, 383), (14, 410), (15, 467), (16, 484), (17, 501), (18, 518), (19, 535), (20, 542), (21, 559), (22, 566), (23, 583), (24, 600), (25, 617), (26, 634), (27, 641), (28, 668), (29, 695), (30, 712), (31, 729), (32, 736), (33, 763), (34, 790), (35, 807), (36, 824), (37, 831), (38, 858), (39, 875), (40, 902), (41, 929), (42, 936), (43, 944), (44, 952), (45, 969), (46, 976), (47, 993)] else []
def mm_cnt : Nat := 210
end
section
/-! reading forms: each with its inversion and its monotony -/
def mm_get {α : Type} : List α → Nat → Option α
  | [], _ => none
  | a :: _, 0 => some a
  | _ :: l, k + 1 => mm_get l k
theorem mm_get_eq {α : Type} : ∀ (l : List α) (k : Nat), mm_get l k = l[k]?
  | [], k => by simp [mm_get]
  | a :: l, 0 => by simp [mm_get]
  | a :: l, k + 1 => by simp [mm_get, mm_get_eq l k]
theorem mm_ld_inv : ∀ {l : List Value} {k : Nat} {K : Value → Prop}, mm_ld l k K → ∃ v, l[k]? = some v ∧ K v
  | [], _, _, h => h.elim
  | v :: _, 0, _, h => ⟨v, rfl, h⟩
  | _ :: l, k + 1, _, h => by
    obtain ⟨v, h1, h2⟩ := mm_ld_inv (l := l) (k := k) h
    exact ⟨v, by simpa using h1, h2⟩
theorem mm_ld_of : ∀ {l : List Value} {k : Nat} {v : Value} {K : Value → Prop}, l[k]? = some v → K v → mm_ld l k K
  | [], _, _, _, h, _ => by simp at h
  | a :: _, 0, v, K, h, hk => by
    have e : a = v := by simpa using h
    subst e
    exact hk
  | _ :: l, k + 1, v, _, h, hk => mm_ld_of (l := l) (k := k) (v := v) (by simpa using h) hk
theorem mm_set_inv : ∀ {l : List Value} {k : Nat} {v : Value} {K : List Value → Prop}, mm_set l k v K → k < l.length ∧ K (l.set k v)
  | [], _, _, _, h => h.elim
  | _ :: l, 0, _, _, h => ⟨by simp, h⟩
  | a :: l, k + 1, v, K, h => by
    obtain ⟨h1, h2⟩ := mm_set_inv (l := l) (k := k) (v := v) (K := fun l' => K (a :: l')) h
    exact ⟨by simpa using h1, by simpa using h2⟩
theorem mm_set_of : ∀ {l : List Value} {k : Nat} {v : Value} {K : List Value → Prop}, k < l.length → K (l.set k v) → mm_set l k v K
  | [], _, _, _, h, _ => by simp at h
  | _ :: l, 0, _, _, _, h => h
  | a :: l, k + 1, v, K, h, hk => mm_set_of (l := l) (k := k) (v := v) (K := fun l' => K (a :: l')) (by simpa using h) (by simpa using hk)
theorem mm_st_inv : ∀ {l : List Value} {k : Nat} {v : Value} {K : List Value → Prop}, mm_st l k v K → k < l.length ∧ K (l.set k v) ∧ ∀ j x, j + 1 = k → l[j]? ≠ some (.long x)
  | [], _, _, _, h => h.elim
  | _ :: l, 0, _, _, h => ⟨by simp, h, fun j x e => by omega⟩
  | a :: l, 1, v, K, h => by
    cases a <;> first
      | exact h.elim
      | (obtain ⟨h1, h2, h3⟩ := mm_st_inv (l := l) (k := 0) (v := v) h
         refine ⟨by simpa using h1, by simpa using h2, fun j x e => ?_⟩
         have hj : j = 0 := by omega
         subst hj
         simp)
  | a :: l, k + 2, v, K, h => by
    have h' : mm_st l (k + 1) v (fun l' => K (a :: l')) := by
      cases a <;> exact h
    obtain ⟨h1, h2, h3⟩ := mm_st_inv (l := l) (k := k + 1) (v := v) h'
    refine ⟨by simp; omega, by simpa using h2, fun j x e => ?_⟩
    cases j with
    | zero => omega
    | succ j => simpa using h3 j x (by omega)
theorem mm_st_of : ∀ {l : List Value} {k : Nat} {v : Value} {K : List Value → Prop}, k < l.length → K (l.set k v) → (∀ j x, j + 1 = k → l[j]? ≠ some (.long x)) → mm_st l k v K
  | [], _, _, _, h, _, _ => by simp at h
  | _ :: l, 0, _, _, _, h, _ => h
  | a :: l, 1, v, K, h, hk, hn => by
    have hr : mm_st l 0 v (fun l' => K (a :: l')) := mm_st_of (by simpa using h) (by simpa using hk) (fun j x e => by omega)
    cases a <;> first
      | exact hr
      | exact absurd rfl (hn 0 _ rfl)
  | a :: l, k + 2, v, K, h, hk, hn => by
    have hr : mm_st l (k + 1) v (fun l' => K (a :: l')) := mm_st_of (by simp at h; omega) (by simpa using hk) (fun j x e => by simpa using hn (j + 1) x (by omega))
    cases a <;> exact hr
theorem mm_st2_inv : ∀ {l : List Value} {k : Nat} {v : Value} {K : List Value → Prop}, mm_st2 l k v K → k + 1 < l.length ∧ K ((l.set k v).set (k + 1) .null) ∧ ∀ j x, j + 1 = k → l[j]? ≠ some (.long x)
  | [], _, _, _, h => h.elim
  | [_], k, _, _, h => by cases k <;> exact h.elim
  | _ :: _ :: l, 0, _, _, h => ⟨by simp, h, fun j x e => by omega⟩
  | a :: b :: l, 1, v, K, h => by
    cases a <;> first
      | exact h.elim
      | (obtain ⟨h1, h2, h3⟩ := mm_st2_inv (l := b :: l) (k := 0) (v := v) h
         refine ⟨by simpa using h1, by simpa using h2, fun j x e => ?_⟩
         have hj : j = 0 := by omega
         subst hj
         simp)
  | a :: b :: l, k + 2, v, K, h => by
    have h' : mm_st2 (b :: l) (k + 1) v (fun l' => K (a :: l')) := by
      cases a <;> exact h
    obtain ⟨h1, h2, h3⟩ := mm_st2_inv (l := b :: l) (k := k + 1) (v := v) h'
    refine ⟨by simp at h1 ⊢; omega, by simpa using h2, fun j x e => ?_⟩
    cases j with
    | zero => omega
    | succ j => simpa using h3 j x (by omega)
theorem mm_st2_of : ∀ {l : List Value} {k : Nat} {v : Value} {K : List Value → Prop}, k + 1 < l.length → K ((l.set k v).set (k + 1) .null) → (∀ j x, j + 1 = k → l[j]? ≠ some (.long x)) → mm_st2 l k v K
  | [], _, _, _, h, _, _ => by simp at h
  | [_], k, _, _, h, _, _ => by simp at h
  | _ :: _ :: l, 0, _, _, _, h, _ => h
  | a :: b :: l, 1, v, K, h, hk, hn => by
    have hr : mm_st2 (b :: l) 0 v (fun l' => K (a :: l')) := mm_st2_of (by simpa using h) (by simpa using hk) (fun j x e => by omega)
    cases a <;> first
      | exact hr
      | exact absurd rfl (hn 0 _ rfl)
  | a :: b :: l, k + 2, v, K, h, hk, hn => by
    have hr : mm_st2 (b :: l) (k + 1) v (fun l' => K (a :: l')) := mm_st2_of (by simp at h ⊢; omega) (by simpa using hk) (fun j x e => by simpa using hn (j + 1) x (by omega))
    cases a <;> exact hr
theorem mm_pop_inv : ∀ {n : Nat} {st acc : List Value} {K : List Value → List Value → Prop}, mm_pop n st acc K → ∃ as rest, as.length = n ∧ st = as.reverse ++ rest ∧ K (as ++ acc) rest
  | 0, st, acc, _, h => ⟨[], st, rfl, rfl, h⟩
  | _ + 1, [], _, _, h => h.elim
  | n + 1, v :: st, acc, K, h => by
    obtain ⟨as, rest, h1, h2, h3⟩ := mm_pop_inv (n := n) (st := st) (acc := v :: acc) h
    exact ⟨as ++ [v], rest, by simp [h1], by simp [h2], by simpa using h3⟩
theorem mm_pop_of : ∀ {n : Nat} {as acc rest : List Value} {K : List Value → List Value → Prop}, as.length = n → K (as ++ acc) rest → mm_pop n (as.reverse ++ rest) acc K
  | 0, as, acc, rest, K, h, hk => by
    have e : as = [] := List.length_eq_zero_iff.mp h
    subst e
    exact hk
  | n + 1, as, acc, rest, K, h, hk => by
    rcases List.eq_nil_or_concat as with e | ⟨bs, v, e⟩
    · subst e
      simp at h
    · subst e
      have hr := mm_pop_of (n := n) (as := bs) (acc := v :: acc) (rest := rest) (K := K) (by simpa using h) (by simpa using hk)
      simpa [mm_pop] using hr
theorem mm_pop_mono {n : Nat} {st acc : List Value} {K K' : List Value → List Value → Prop} (hK : ∀ a b, K a b → K' a b) (h : mm_pop n st acc K) : mm_pop n st acc K' := by
  obtain ⟨as, rest, h1, h2, h3⟩ := mm_pop_inv h
  subst h2
  exact mm_pop_of h1 (hK _ _ h3)

def mm_ldI (l : List Value) (k : Nat) (K : Int32 → Prop) : Prop := mm_ld l k (fun v => match v with | .int x => K x | _ => False)
theorem mm_ldI_inv {l : List Value} {k : Nat} {K : Int32 → Prop} (h : mm_ldI l k K) : ∃ x, l[k]? = some (.int x) ∧ K x := by
  obtain ⟨v, h1, h2⟩ := mm_ld_inv h
  cases v <;> first | exact h2.elim | exact ⟨_, h1, h2⟩
theorem mm_ldI_of {l : List Value} {k : Nat} {x : Int32} {K : Int32 → Prop} (h : l[k]? = some (.int x)) (hk : K x) : mm_ldI l k K := mm_ld_of (v := .int x) h hk
theorem mm_ldI_mono {l : List Value} {k : Nat} {K K' : Int32 → Prop} (hK : ∀ x, K x → K' x) (h : mm_ldI l k K) : mm_ldI l k K' := by
  obtain ⟨x, h1, h2⟩ := mm_ldI_inv h
  exact mm_ldI_of h1 (hK x h2)
def mm_ldL (l : List Value) (k : Nat) (K : Int64 → Prop) : Prop := mm_ld l k (fun v => match v with | .long x => K x | _ => False)
theorem mm_ldL_inv {l : List Value} {k : Nat} {K : Int64 → Prop} (h : mm_ldL l k K) : ∃ x, l[k]? = some (.long x) ∧ K x := by
  obtain ⟨v, h1, h2⟩ := mm_ld_inv h
  cases v <;> first | exact h2.elim | exact ⟨_, h1, h2⟩
theorem mm_ldL_of {l : List Value} {k : Nat} {x : Int64} {K : Int64 → Prop} (h : l[k]? = some (.long x)) (hk : K x) : mm_ldL l k K := mm_ld_of (v := .long x) h hk
theorem mm_ldL_mono {l : List Value} {k : Nat} {K K' : Int64 → Prop} (hK : ∀ x, K x → K' x) (h : mm_ldL l k K) : mm_ldL l k K' := by
  obtain ⟨x, h1, h2⟩ := mm_ldL_inv h
  exact mm_ldL_of h1 (hK x h2)
def mm_ldR (l : List Value) (k : Nat) (K : Nat → Prop) : Prop := mm_ld l k (fun v => match v with | .ref x => K x | _ => False)
theorem mm_ldR_inv {l : List Value} {k : Nat} {K : Nat → Prop} (h : mm_ldR l k K) : ∃ x, l[k]? = some (.ref x) ∧ K x := by
  obtain ⟨v, h1, h2⟩ := mm_ld_inv h
  cases v <;> first | exact h2.elim | exact ⟨_, h1, h2⟩
theorem mm_ldR_of {l : List Value} {k : Nat} {x : Nat} {K : Nat → Prop} (h : l[k]? = some (.ref x)) (hk : K x) : mm_ldR l k K := mm_ld_of (v := .ref x) h hk
theorem mm_ldR_mono {l : List Value} {k : Nat} {K K' : Nat → Prop} (hK : ∀ x, K x → K' x) (h : mm_ldR l k K) : mm_ldR l k K' := by
  obtain ⟨x, h1, h2⟩ := mm_ldR_inv h
  exact mm_ldR_of h1 (hK x h2)
def mm_i1 (st : List Value) (K : Int32 → List Value → Prop) : Prop := match st with | .int x0 :: r => K x0 r | _ => False
theorem mm_i1_inv {st : List Value} {K : Int32 → List Value → Prop} (h : mm_i1 st K) : ∃ x0 r, st = .int x0 :: r ∧ K x0 r := by
  unfold mm_i1 at h
  split at h
  · exact ⟨_, _, rfl, h⟩
  · exact h.elim
theorem mm_i1_mono {st : List Value} {K K' : Int32 → List Value → Prop} (hK : ∀ x0 r, K x0 r → K' x0 r) (h : mm_i1 st K) : mm_i1 st K' := by
  obtain ⟨x0, r, e, h⟩ := mm_i1_inv h
  subst e
  exact hK _ _ h
def mm_i2 (st : List Value) (K : Int32 → Int32 → List Value → Prop) : Prop := match st with | .int x0 :: .int x1 :: r => K x0 x1 r | _ => False
theorem mm_i2_inv {st : List Value} {K : Int32 → Int32 → List Value → Prop} (h : mm_i2 st K) : ∃ x0 x1 r, st = .int x0 :: .int x1 :: r ∧ K x0 x1 r := by
  unfold mm_i2 at h
  split at h
  · exact ⟨_, _, _, rfl, h⟩
  · exact h.elim
theorem mm_i2_mono {st : List Value} {K K' : Int32 → Int32 → List Value → Prop} (hK : ∀ x0 x1 r, K x0 x1 r → K' x0 x1 r) (h : mm_i2 st K) : mm_i2 st K' := by
  obtain ⟨x0, x1, r, e, h⟩ := mm_i2_inv h
  subst e
  exact hK _ _ _ h
def mm_i3 (st : List Value) (K : Int32 → Int32 → Int32 → List Value → Prop) : Prop := match st with | .int x0 :: .int x1 :: .int x2 :: r => K x0 x1 x2 r | _ => False
theorem mm_i3_inv {st : List Value} {K : Int32 → Int32 → Int32 → List Value → Prop} (h : mm_i3 st K) : ∃ x0 x1 x2 r, st = .int x0 :: .int x1 :: .int x2 :: r ∧ K x0 x1 x2 r := by
  unfold mm_i3 at h
  split at h
  · exact ⟨_, _, _, _, rfl, h⟩
  · exact h.elim
theorem mm_i3_mono {st : List Value} {K K' : Int32 → Int32 → Int32 → List Value → Prop} (hK : ∀ x0 x1 x2 r, K x0 x1 x2 r → K' x0 x1 x2 r) (h : mm_i3 st K) : mm_i3 st K' := by
  obtain ⟨x0, x1, x2, r, e, h⟩ := mm_i3_inv h
  subst e
  exact hK _ _ _ _ h
def mm_l1 (st : List Value) (K : Int64 → List Value → Prop) : Prop := match st with | .long x0 :: r => K x0 r | _ => False
theorem mm_l1_inv {st : List Value} {K : Int64 → List Value → Prop} (h : mm_l1 st K) : ∃ x0 r, st = .long x0 :: r ∧ K x0 r := by
  unfold mm_l1 at h
  split at h
  · exact ⟨_, _, rfl, h⟩
  · exact h.elim
theorem mm_l1_mono {st : List Value} {K K' : Int64 → List Value → Prop} (hK : ∀ x0 r, K x0 r → K' x0 r) (h : mm_l1 st K) : mm_l1 st K' := by
  obtain ⟨x0, r, e, h⟩ := mm_l1_inv h
  subst e
  exact hK _ _ h
def mm_l2 (st : List Value) (K : Int64 → Int64 → List Value → Prop) : Prop := match st with | .long x0 :: .long x1 :: r => K x0 x1 r | _ => False
theorem mm_l2_inv {st : List Value} {K : Int64 → Int64 → List Value → Prop} (h : mm_l2 st K) : ∃ x0 x1 r, st = .long x0 :: .long x1 :: r ∧ K x0 x1 r := by
  unfold mm_l2 at h
  split at h
  · exact ⟨_, _, _, rfl, h⟩
  · exact h.elim
theorem mm_l2_mono {st : List Value} {K K' : Int64 → Int64 → List Value → Prop} (hK : ∀ x0 x1 r, K x0 x1 r → K' x0 x1 r) (h : mm_l2 st K) : mm_l2 st K' := by
  obtain ⟨x0, x1, r, e, h⟩ := mm_l2_inv h
  subst e
  exact hK _ _ _ h
def mm_r1 (st : List Value) (K : Nat → List Value → Prop) : Prop := match st with | .ref x0 :: r => K x0 r | _ => False
theorem mm_r1_inv {st : List Value} {K : Nat → List Value → Prop} (h : mm_r1 st K) : ∃ x0 r, st = .ref x0 :: r ∧ K x0 r := by
  unfold mm_r1 at h
  split at h
  · exact ⟨_, _, rfl, h⟩
  · exact h.elim
theorem mm_r1_mono {st : List Value} {K K' : Nat → List Value → Prop} (hK : ∀ x0 r, K x0 r → K' x0 r) (h : mm_r1 st K) : mm_r1 st K' := by
  obtain ⟨x0, r, e, h⟩ := mm_r1_inv h
  subst e
  exact hK _ _ h
def mm_ir (st : List Value) (K : Int32 → Nat → List Value → Prop) : Prop := match st with | .int x0 :: .ref x1 :: r => K x0 x1 r | _ => False
theorem mm_ir_inv {st : List Value} {K : Int32 → Nat → List Value → Prop} (h : mm_ir st K) : ∃ x0 x1 r, st = .int x0 :: .ref x1 :: r ∧ K x0 x1 r := by
  unfold mm_ir at h
  split at h
  · exact ⟨_, _, _, rfl, h⟩
  · exact h.elim
theorem mm_ir_mono {st : List Value} {K K' : Int32 → Nat → List Value → Prop} (hK : ∀ x0 x1 r, K x0 x1 r → K' x0 x1 r) (h : mm_ir st K) : mm_ir st K' := by
  obtain ⟨x0, x1, r, e, h⟩ := mm_ir_inv h
  subst e
  exact hK _ _ _ h
def mm_iir (st : List Value) (K : Int32 → Int32 → Nat → List Value → Prop) : Prop := match st with | .int x0 :: .int x1 :: .ref x2 :: r => K x0 x1 x2 r | _ => False
theorem mm_iir_inv {st : List Value} {K : Int32 → Int32 → Nat → List Value → Prop} (h : mm_iir st K) : ∃ x0 x1 x2 r, st = .int x0 :: .int x1 :: .ref x2 :: r ∧ K x0 x1 x2 r := by
  unfold mm_iir at h
  split at h
  · exact ⟨_, _, _, _, rfl, h⟩
  · exact h.elim
theorem mm_iir_mono {st : List Value} {K K' : Int32 → Int32 → Nat → List Value → Prop} (hK : ∀ x0 x1 x2 r, K x0 x1 x2 r → K' x0 x1 x2 r) (h : mm_iir st K) : mm_iir st K' := by
  obtain ⟨x0, x1, x2, r, e, h⟩ := mm_iir_inv h
  subst e
  exact hK _ _ _ _ h
def mm_rir (st : List Value) (K : Nat → Int32 → Nat → List Value → Prop) : Prop := match st with | .ref x0 :: .int x1 :: .ref x2 :: r => K x0 x1 x2 r | _ => False
theorem mm_rir_inv {st : List Value} {K : Nat → Int32 → Nat → List Value → Prop} (h : mm_rir st K) : ∃ x0 x1 x2 r, st = .ref x0 :: .int x1 :: .ref x2 :: r ∧ K x0 x1 x2 r := by
  unfold mm_rir at h
  split at h
  · exact ⟨_, _, _, _, rfl, h⟩
  · exact h.elim
theorem mm_rir_mono {st : List Value} {K K' : Nat → Int32 → Nat → List Value → Prop} (hK : ∀ x0 x1 x2 r, K x0 x1 x2 r → K' x0 x1 x2 r) (h : mm_rir st K) : mm_rir st K' := by
  obtain ⟨x0, x1, x2, r, e, h⟩ := mm_rir_inv h
  subst e
  exact hK _ _ _ _ h
def mm_v1 (st : List Value) (K : Value → List Value → Prop) : Prop := match st with | x0 :: r => K x0 r | _ => False
theorem mm_v1_inv {st : List Value} {K : Value → List Value → Prop} (h : mm_v1 st K) : ∃ x0 r, st = x0 :: r ∧ K x0 r := by
  unfold mm_v1 at h
  split at h
  · exact ⟨_, _, rfl, h⟩
  · exact h.elim
theorem mm_v1_mono {st : List Value} {K K' : Value → List Value → Prop} (hK : ∀ x0 r, K x0 r → K' x0 r) (h : mm_v1 st K) : mm_v1 st K' := by
  obtain ⟨x0, r, e, h⟩ := mm_v1_inv h
  subst e
  exact hK _ _ h
def mm_v2 (st : List Value) (K : Value → Value → List Value → Prop) : Prop := match st with | x0 :: x1 :: r => K x0 x1 r | _ => False
theorem mm_v2_inv {st : List Value} {K : Value → Value → List Value → Prop} (h : mm_v2 st K) : ∃ x0 x1 r, st = x0 :: x1 :: r ∧ K x0 x1 r := by
  unfold mm_v2 at h
  split at h
  · exact ⟨_, _, _, rfl, h⟩
  · exact h.elim
theorem mm_v2_mono {st : List Value} {K K' : Value → Value → List Value → Prop} (hK : ∀ x0 x1 r, K x0 x1 r → K' x0 x1 r) (h : mm_v2 st K) : mm_v2 st K' := by
  obtain ⟨x0, x1, r, e, h⟩ := mm_v2_inv h
  subst e
  exact hK _ _ _ h
def mm_vr (st : List Value) (K : Value → Nat → List Value → Prop) : Prop := match st with | x0 :: .ref x1 :: r => K x0 x1 r | _ => False
theorem mm_vr_inv {st : List Value} {K : Value → Nat → List Value → Prop} (h : mm_vr st K) : ∃ x0 x1 r, st = x0 :: .ref x1 :: r ∧ K x0 x1 r := by
  unfold mm_vr at h
  split at h
  · exact ⟨_, _, _, rfl, h⟩
  · exact h.elim
theorem mm_vr_mono {st : List Value} {K K' : Value → Nat → List Value → Prop} (hK : ∀ x0 x1 r, K x0 x1 r → K' x0 x1 r) (h : mm_vr st K) : mm_vr st K' := by
  obtain ⟨x0, x1, r, e, h⟩ := mm_vr_inv h
  subst e
  exact hK _ _ _ h
def mm_iirir (st : List Value) (K : Int32 → Int32 → Nat → Int32 → Nat → List Value → Prop) : Prop := match st with | .int x0 :: .int x1 :: .ref x2 :: .int x3 :: .ref x4 :: r => K x0 x1 x2 x3 x4 r | _ => False
theorem mm_iirir_inv {st : List Value} {K : Int32 → Int32 → Nat → Int32 → Nat → List Value → Prop} (h : mm_iirir st K) : ∃ x0 x1 x2 x3 x4 r, st = .int x0 :: .int x1 :: .ref x2 :: .int x3 :: .ref x4 :: r ∧ K x0 x1 x2 x3 x4 r := by
  unfold mm_iirir at h
  split at h
  · exact ⟨_, _, _, _, _, _, rfl, h⟩
  · exact h.elim
theorem mm_iirir_mono {st : List Value} {K K' : Int32 → Int32 → Nat → Int32 → Nat → List Value → Prop} (hK : ∀ x0 x1 x2 x3 x4 r, K x0 x1 x2 x3 x4 r → K' x0 x1 x2 x3 x4 r) (h : mm_iirir st K) : mm_iirir st K' := by
  obtain ⟨x0, x1, x2, x3, x4, r, e, h⟩ := mm_iirir_inv h
  subst e
  exact hK _ _ _ _ _ _ h
def mm_obj (h : Nat → mm_C) (o ci : Nat) (K : List Value → Prop) : Prop := match h o with | .inl (c, fs) => (match Nat.beq c ci with | true => K fs | false => False) | _ => False
theorem mm_obj_inv {h : Nat → mm_C} {o ci : Nat} {K : List Value → Prop} (q : mm_obj h o ci K) : ∃ fs, h o = mO ci fs ∧ K fs := by
  unfold mm_obj at q
  split at q
  · rename_i c fs e
    split at q
    · rename_i e2
      have e3 : c = ci := Nat.eq_of_beq_eq_true e2
      subst e3
      exact ⟨fs, e, q⟩
    · exact q.elim
  · exact q.elim
theorem mm_obj_of {h : Nat → mm_C} {o ci : Nat} {fs : List Value} {K : List Value → Prop} (e : h o = mO ci fs) (q : K fs) : mm_obj h o ci K := by
  unfold mm_obj
  rw [e]
  show (match Nat.beq ci ci with | true => K fs | false => False)
  rw [Nat.beq_refl]
  exact q
theorem mm_obj_mono {h : Nat → mm_C} {o ci : Nat} {K K' : List Value → Prop} (hK : ∀ x, K x → K' x) (q : mm_obj h o ci K) : mm_obj h o ci K' := by
  obtain ⟨fs, e, q⟩ := mm_obj_inv q
  exact mm_obj_of e (hK _ q)
def mm_arr (h : Nat → mm_C) (o : Nat) (K : Nat → (Nat → Int32) → Prop) : Prop := match h o with | .inr (.inl (n, f)) => K n f | .inr (.inr (.inr (n, f))) => K n f | _ => False
theorem mm_arr_inv {h : Nat → mm_C} {o : Nat} {K : Nat → (Nat → Int32) → Prop} (q : mm_arr h o K) : ∃ n f, (h o = mI n f ∨ h o = mE n f) ∧ K n f := by
  unfold mm_arr at q
  split at q
  · rename_i n f e
    exact ⟨n, f, Or.inl e, q⟩
  · rename_i n f e
    exact ⟨n, f, Or.inr e, q⟩
  · exact q.elim
theorem mm_arr_of {h : Nat → mm_C} {o n : Nat} {f : Nat → Int32} {K : Nat → (Nat → Int32) → Prop} (e : h o = mI n f ∨ h o = mE n f) (q : K n f) : mm_arr h o K := by
  unfold mm_arr
  rcases e with e | e <;> rw [e] <;> exact q
theorem mm_arr_mono {h : Nat → mm_C} {o : Nat} {K K' : Nat → (Nat → Int32) → Prop} (hK : ∀ n f, K n f → K' n f) (q : mm_arr h o K) : mm_arr h o K' := by
  obtain ⟨n, f, e, q⟩ := mm_arr_inv q
  exact mm_arr_of e (hK _ _ q)
def mm_arw (h : Nat → mm_C) (o : Nat) (K : Nat → (Nat → Int32) → Prop) : Prop := match h o with | .inr (.inl (n, f)) => K n f | _ => False
theorem mm_arw_inv {h : Nat → mm_C} {o : Nat} {K : Nat → (Nat → Int32) → Prop} (q : mm_arw h o K) : ∃ n f, h o = mI n f ∧ K n f := by
  unfold mm_arw at q
  split at q
  · rename_i n f e
    exact ⟨n, f, e, q⟩
  · exact q.elim
theorem mm_arw_of {h : Nat → mm_C} {o n : Nat} {f : Nat → Int32} {K : Nat → (Nat → Int32) → Prop} (e : h o = mI n f) (q : K n f) : mm_arw h o K := by
  unfold mm_arw
  rw [e]
  exact q
theorem mm_arw_mono {h : Nat → mm_C} {o : Nat} {K K' : Nat → (Nat → Int32) → Prop} (hK : ∀ n f, K n f → K' n f) (q : mm_arw h o K) : mm_arw h o K' := by
  obtain ⟨n, f, e, q⟩ := mm_arw_inv q
  exact mm_arw_of e (hK _ _ q)
def mm_rar (h : Nat → mm_C) (o : Nat) (K : Nat → Nat → (Nat → Option Nat) → Prop) : Prop := match h o with | .inr (.inr (.inl (c, n, f))) => K c n f | _ => False
theorem mm_rar_inv {h : Nat → mm_C} {o : Nat} {K : Nat → Nat → (Nat → Option Nat) → Prop} (q : mm_rar h o K) : ∃ c n f, h o = mR c n f ∧ K c n f := by
  unfold mm_rar at q
  split at q
  · rename_i c n f e
    exact ⟨c, n, f, e, q⟩
  · exact q.elim
theorem mm_rar_of {h : Nat → mm_C} {o c n : Nat} {f : Nat → Option Nat} {K : Nat → Nat → (Nat → Option Nat) → Prop} (e : h o = mR c n f) (q : K c n f) : mm_rar h o K := by
  unfold mm_rar
  rw [e]
  exact q
theorem mm_rar_mono {h : Nat → mm_C} {o : Nat} {K K' : Nat → Nat → (Nat → Option Nat) → Prop} (hK : ∀ c n f, K c n f → K' c n f) (q : mm_rar h o K) : mm_rar h o K' := by
  obtain ⟨c, n, f, e, q⟩ := mm_rar_inv q
  exact mm_rar_of e (hK _ _ _ q)
def mm_alen (h : Nat → mm_C) (o : Nat) (K : Nat → Prop) : Prop := match h o with | .inr (.inl (n, _)) => K n | .inr (.inr (.inr (n, _))) => K n | .inr (.inr (.inl (_, n, _))) => K n | .inl _ => False
theorem mm_alen_mono {h : Nat → mm_C} {o : Nat} {K K' : Nat → Prop} (hK : ∀ n, K n → K' n) (q : mm_alen h o K) : mm_alen h o K' := by
  unfold mm_alen at q ⊢
  split at q <;> first | exact hK _ q | exact q.elim
def mm_sw (x : Int32) (K : Nat → Prop) (b : Nat) : List (Int32 × Nat) → Prop
  | [] => K b
  | (v, t) :: l => (x = v → K t) ∧ (¬ x = v → mm_sw x K b l)
theorem mm_sw_mono {x : Int32} {K K' : Nat → Prop} {b : Nat} (hK : ∀ t, K t → K' t) : ∀ {l : List (Int32 × Nat)}, mm_sw x K b l → mm_sw x K' b l
  | [], h => hK _ h
  | (_, _) :: _, h => ⟨fun e => hK _ (h.1 e), fun e => mm_sw_mono hK (h.2 e)⟩
def mm_b1 (b : Bool) (P : Prop) : Prop := match b with | true => P | false => False
theorem mm_b1_inv {b : Bool} {P : Prop} (h : mm_b1 b P) : b = true ∧ P := by cases b <;> first | exact h.elim | exact ⟨rfl, h⟩
theorem mm_b1_mono {b : Bool} {P P' : Prop} (hK : P → P') (h : mm_b1 b P) : mm_b1 b P' := by cases b <;> first | exact h.elim | exact hK h
def mm_bb (b : Bool) (P P' : Prop) : Prop := match b with | true => P | false => P'
theorem mm_bb_mono {b : Bool} {P P' R R' : Prop} (h1 : P → R) (h2 : P' → R') (h : mm_bb b P P') : mm_bb b R R' := by cases b <;> first | exact h2 h | exact h1 h
def mm_dd (d : Nat) (K : Nat → Prop) : Prop := match d with | 0 => False | k + 1 => K k
theorem mm_dd_inv {d : Nat} {K : Nat → Prop} (h : mm_dd d K) : ∃ k, d = k + 1 ∧ K k := by cases d <;> first | exact h.elim | exact ⟨_, rfl, h⟩
theorem mm_dd_mono {d : Nat} {K K' : Nat → Prop} (hK : ∀ k, K k → K' k) (h : mm_dd d K) : mm_dd d K' := by cases d <;> first | exact h.elim | exact hK _ h
/-- few things lie below a call's arguments -/
def mm_few (r : List Value) (P : Prop) : Prop := match r.drop 4 with | [] => P | _ :: _ => False
theorem mm_few_inv {r : List Value} {P : Prop} (h : mm_few r P) : r.length ≤ 4 ∧ P := by
  unfold mm_few at h
  split at h
  · rename_i e
    exact ⟨by simpa using e, h⟩
  · exact h.elim
theorem mm_few_mono {r : List Value} {P P' : Prop} (hK : P → P') (h : mm_few r P) : mm_few r P' := by
  unfold mm_few at h ⊢
  split at h
  · exact hK h
  · exact h.elim
def mm_at (μ ip : Nat) : Option mm_N := match mm_get (mm_code μ) (ip / 32) with | some l => mm_get l (ip % 32) | none => none
def mm_call (E : mm_X) (d μ : Nat) (args : List Value) (h : mm_H) (K : mm_K) : Prop := E d μ 0 (mm_al μ) (mm_ent (mm_ml μ) args) [] h K
def mm_tk (al : Nat × Nat) (c s : Nat) (K : Nat × Nat → Prop) : Prop := match c, s with | 0, 0 => K al | c, s => c ≤ al.1 ∧ s ≤ al.2 ∧ K (al.1 - c, al.2 - s)
theorem mm_tk_inv {al : Nat × Nat} {c s : Nat} {K : Nat × Nat → Prop} (h : mm_tk al c s K) : c ≤ al.1 ∧ s ≤ al.2 ∧ K (al.1 - c, al.2 - s) := by
  cases c <;> cases s <;> first | exact h | exact ⟨Nat.zero_le _, Nat.zero_le _, h⟩
theorem mm_tk_mono {al : Nat × Nat} {c s : Nat} {K K' : Nat × Nat → Prop} (hK : ∀ a, K a → K' a) (h : mm_tk al c s K) : mm_tk al c s K' := by
  cases c <;> cases s <;> first | exact ⟨h.1, h.2.1, hK _ h.2.2⟩ | exact hK _ h
def mm_ret (rest : List Value) (K : List Value → mm_H → Prop) : mm_K := fun rv h' => match rv with | some v => K (v :: rest) h' | none => K rest h'
def mm_inv (X E : mm_X) (d μ nx : Nat) (al : Nat × Nat) (ls : List Value) (h : mm_H) (Q : mm_K) (μ' : Nat) (args rest : List Value) : Prop :=
  mm_few rest (mm_b1 (mm_akd args && Nat.ble (mm_ex args).length (mm_ml μ')) (mm_tk al (mm_al μ').1 (mm_al μ').2 (fun al' => mm_dd d (fun d' => mm_call E d' μ' args h (mm_ret rest (fun st h' => X d μ nx al' ls st h' Q))))))
def mm_cpc (n0 n1 : Nat) (sp dp n : Int32) : Prop := ¬ sp < 0 ∧ ¬ dp < 0 ∧ ¬ n < 0 ∧ sp.toNatClampNeg + n.toNatClampNeg ≤ n0 ∧ dp.toNatClampNeg + n.toNatClampNeg ≤ n1

theorem mm_inv_mono {X E Y F : mm_X} (hX : ∀ d μ ip al ls st h Q, X d μ ip al ls st h Q → Y d μ ip al ls st h Q) (hE : ∀ d μ ip al ls st h Q, E d μ ip al ls st h Q → F d μ ip al ls st h Q) (hF : ∀ d μ ip al ls st h Q Q', (∀ r h', Q r h' → Q' r h') → F d μ ip al ls st h Q → F d μ ip al ls st h Q')
    {d μ nx : Nat} {al : Nat × Nat} {ls : List Value} {h : mm_H} {Q : mm_K} {μ' : Nat} {args rest : List Value} : mm_inv X E d μ nx al ls h Q μ' args rest → mm_inv Y F d μ nx al ls h Q μ' args rest := by
  unfold mm_inv
  refine mm_few_mono (mm_b1_mono (mm_tk_mono (fun al' => mm_dd_mono (fun d' q => ?_))))
  refine hF _ _ _ _ _ _ _ _ _ ?_ (hE _ _ _ _ _ _ _ _ q)
  intro r h' z
  cases r <;> exact hX _ _ _ _ _ _ _ _ z
def mm_stepI (q : mm_N) (X E : mm_X) (d μ : Nat) (al : Nat × Nat) (ls st : List Value) (h : mm_H) (Q : mm_K) : Prop := match q with
  | (_, i, nx, a, b, cv, _) => match i with
    | .iload_n _ => (mm_ldI ls a (fun x => X d μ nx al ls (.int x :: st) h Q))
    | .iload _ => (mm_ldI ls a (fun x => X d μ nx al ls (.int x :: st) h Q))
    | .lload_n _ => (mm_ldL ls a (fun x => X d μ nx al ls (.long x :: st) h Q))
    | .lload _ => (mm_ldL ls a (fun x => X d μ nx al ls (.long x :: st) h Q))
    | .aload_n _ => (mm_ldR ls a (fun x => X d μ nx al ls (.ref x :: st) h Q))
    | .aload _ => (mm_ldR ls a (fun x => X d μ nx al ls (.ref x :: st) h Q))
    | .istore_n _ => (mm_i1 st (fun x r => mm_st ls a (.int x) (fun ls => X d μ nx al ls r h Q)))
    | .istore _ => (mm_i1 st (fun x r => mm_st ls a (.int x) (fun ls => X d μ nx al ls r h Q)))
    | .astore_n _ => (mm_r1 st (fun x r => mm_st ls a (.ref x) (fun ls => X d μ nx al ls r h Q)))
    | .astore _ => (mm_r1 st (fun x r => mm_st ls a (.ref x) (fun ls => X d μ nx al ls r h Q)))
    | .lstore_n _ => (mm_l1 st (fun x r => mm_st2 ls a (.long x) (fun ls => X d μ nx al ls r h Q)))
    | .lstore _ => (mm_l1 st (fun x r => mm_st2 ls a (.long x) (fun ls => X d μ nx al ls r h Q)))
    | .iinc _ _ => (mm_ldI ls a (fun x => match cv with | .int y => mm_st ls a (.int (x + y)) (fun ls => X d μ nx al ls st h Q) | _ => False))
    | .iconst _ => (X d μ nx al ls (cv :: st) h Q)
    | .bipush _ => (X d μ nx al ls (cv :: st) h Q)
    | .sipush _ => (X d μ nx al ls (cv :: st) h Q)
    | .ldc _ => (X d μ nx al ls (cv :: st) h Q)
    | .ldc_w _ => (X d μ nx al ls (cv :: st) h Q)
    | .lconst _ => (X d μ nx al ls (cv :: st) h Q)
    | .ldc2_w _ => (X d μ nx al ls (cv :: st) h Q)
    | .getstatic _ => (X d μ nx al ls (.ref 1 :: st) h Q)
    | .iadd => (mm_i2 st (fun x0 x1 r => X d μ nx al ls (.int (x1 + x0) :: r) h Q))
    | .isub => (mm_i2 st (fun x0 x1 r => X d μ nx al ls (.int (x1 - x0) :: r) h Q))
    | .imul => (mm_i2 st (fun x0 x1 r => X d μ nx al ls (.int (x1 * x0) :: r) h Q))
    | .iand => (mm_i2 st (fun x0 x1 r => X d μ nx al ls (.int (x1 &&& x0) :: r) h Q))
    | .ior => (mm_i2 st (fun x0 x1 r => X d μ nx al ls (.int (x1 ||| x0) :: r) h Q))
    | .ixor => (mm_i2 st (fun x0 x1 r => X d μ nx al ls (.int (x1 ^^^ x0) :: r) h Q))
    | .ishl => (mm_i2 st (fun x0 x1 r => X d μ nx al ls (.int (x1 <<< (x0 &&& 31)) :: r) h Q))
    | .ishr => (mm_i2 st (fun x0 x1 r => X d μ nx al ls (.int (x1 >>> (x0 &&& 31)) :: r) h Q))
    | .iushr => (mm_i2 st (fun x0 x1 r => X d μ nx al ls (.int ((x1.toUInt32 >>> (x0.toUInt32 &&& Int32.toUInt32 31)).toInt32) :: r) h Q))
    | .idiv => (mm_i2 st (fun x0 x1 r => ¬ x0 = 0 ∧ X d μ nx al ls (.int (x1 / x0) :: r) h Q))
    | .irem => (mm_i2 st (fun x0 x1 r => ¬ x0 = 0 ∧ X d μ nx al ls (.int (x1 - x1 / x0 * x0) :: r) h Q))
    | .ladd => (mm_l2 st (fun x0 x1 r => X d μ nx al ls (.long (x1 + x0) :: r) h Q))
    | .lmul => (mm_l2 st (fun x0 x1 r => X d μ nx al ls (.long (x1 * x0) :: r) h Q))
    | .ldiv => (mm_l2 st (fun x0 x1 r => ¬ x0 = 0 ∧ X d μ nx al ls (.long (x1 / x0) :: r) h Q))
    | .lrem => (mm_l2 st (fun x0 x1 r => ¬ x0 = 0 ∧ X d μ nx al ls (.long (x1 - x1 / x0 * x0) :: r) h Q))
    | .lcmp => (mm_l2 st (fun x0 x1 r => X d μ nx al ls (.int (lg_cmp x1 x0) :: r) h Q))
    | .ineg => (mm_i1 st (fun x r => X d μ nx al ls (.int (-x) :: r) h Q))
    | .i2l => (mm_i1 st (fun x r => X d μ nx al ls (.long x.toInt64 :: r) h Q))
    | .i2b => (mm_i1 st (fun x r => X d μ nx al ls (.int x.toInt8.toInt32 :: r) h Q))
    | .l2i => (mm_l1 st (fun x r => X d μ nx al ls (.int x.toInt32 :: r) h Q))
    | .dup => (mm_v1 st (fun x r => mm_b1 (Nat.beq x.category 1) (X d μ nx al ls (x :: x :: r) h Q)))
    | .pop => (mm_v1 st (fun x r => mm_b1 (Nat.beq x.category 1) (X d μ nx al ls r h Q)))
    | .dup2 => (mm_v2 st (fun x y r => mm_b1 (Nat.beq x.category 1 && Nat.beq y.category 1) (X d μ nx al ls (x :: y :: x :: y :: r) h Q)))
    | .ifCond .eq _ => (mm_i1 st (fun x r => (x = 0 → X d μ a al ls r h Q) ∧ (¬ x = 0 → X d μ nx al ls r h Q)))
    | .ifCond .ne _ => (mm_i1 st (fun x r => (¬ x = 0 → X d μ a al ls r h Q) ∧ (x = 0 → X d μ nx al ls r h Q)))
    | .ifCond .lt _ => (mm_i1 st (fun x r => (x < 0 → X d μ a al ls r h Q) ∧ (¬ x < 0 → X d μ nx al ls r h Q)))
    | .ifCond .ge _ => (mm_i1 st (fun x r => (0 ≤ x → X d μ a al ls r h Q) ∧ (¬ 0 ≤ x → X d μ nx al ls r h Q)))
    | .ifCond .gt _ => (mm_i1 st (fun x r => (0 < x → X d μ a al ls r h Q) ∧ (¬ 0 < x → X d μ nx al ls r h Q)))
    | .ifCond .le _ => (mm_i1 st (fun x r => (x ≤ 0 → X d μ a al ls r h Q) ∧ (¬ x ≤ 0 → X d μ nx al ls r h Q)))
    | .if_icmp .eq _ => (mm_i2 st (fun y x r => (x = y → X d μ a al ls r h Q) ∧ (¬ x = y → X d μ nx al ls r h Q)))
    | .if_icmp .ne _ => (mm_i2 st (fun y x r => (¬ x = y → X d μ a al ls r h Q) ∧ (x = y → X d μ nx al ls r h Q)))
    | .if_icmp .lt _ => (mm_i2 st (fun y x r => (x < y → X d μ a al ls r h Q) ∧ (¬ x < y → X d μ nx al ls r h Q)))
    | .if_icmp .ge _ => (mm_i2 st (fun y x r => (y ≤ x → X d μ a al ls r h Q) ∧ (¬ y ≤ x → X d μ nx al ls r h Q)))
    | .if_icmp .gt _ => (mm_i2 st (fun y x r => (y < x → X d μ a al ls r h Q) ∧ (¬ y < x → X d μ nx al ls r h Q)))
    | .if_icmp .le _ => (mm_i2 st (fun y x r => (x ≤ y → X d μ a al ls r h Q) ∧ (¬ x ≤ y → X d μ nx al ls r h Q)))
    | .goto _ => (X d μ a al ls st h Q)
    | .tableswitch _ _ _ _ => (mm_i1 st (fun x r => mm_sw x (fun t => X d μ t al ls r h Q) b (mm_tg μ)))
    | .newarray _ => (mm_i1 st (fun n r => h.1 < mm_full ∧ ¬ n < 0 ∧ 1 ≤ al.1 ∧ n.toNatClampNeg ≤ al.2 ∧ X d μ nx (al.1 - 1, al.2 - n.toNatClampNeg) ls (.ref h.1 :: r) (h.1 + 1, mU h.2 h.1 (mI n.toNatClampNeg (fun _ => 0))) Q))
    | .anewarray _ => (mm_i1 st (fun n r => h.1 < mm_full ∧ ¬ n < 0 ∧ 1 ≤ al.1 ∧ n.toNatClampNeg ≤ al.2 ∧ X d μ nx (al.1 - 1, al.2 - n.toNatClampNeg) ls (.ref h.1 :: r) (h.1 + 1, mU h.2 h.1 (mR a n.toNatClampNeg (fun _ => none))) Q))
    | .new _ => (h.1 < mm_full ∧ 1 ≤ al.1 ∧ (mm_def a).length ≤ al.2 ∧ X d μ nx (al.1 - 1, al.2 - (mm_def a).length) ls (.ref h.1 :: st) (h.1 + 1, mU h.2 h.1 (mO a (mm_def a))) Q)
    | .getfield _ => (mm_r1 st (fun o r => mm_obj h.2 o a (fun fs => mm_ld fs b (fun v => X d μ nx al ls (v :: r) h Q))))
    | .putfield _ => (mm_vr st (fun v o r => mm_obj h.2 o a (fun fs => mm_ld (mm_def a) b (fun w => mm_b1 (mm_fit w v) (mm_set fs b v (fun fs => X d μ nx al ls r (h.1, mU h.2 o (mO a fs)) Q))))))
    | .iaload => (mm_ir st (fun i o r => mm_arr h.2 o (fun n f => vp_in i n ∧ X d μ nx al ls (.int (f i.toNatClampNeg) :: r) h Q)))
    | .iastore => (mm_iir st (fun x i o r => mm_arw h.2 o (fun n f => vp_in i n ∧ X d μ nx al ls r (h.1, mU h.2 o (mI n (upd f i.toNatClampNeg x))) Q)))
    | .aaload => (mm_ir st (fun i o r => mm_rar h.2 o (fun _ n f => vp_in i n ∧ ∃ k, f i.toNatClampNeg = some k ∧ X d μ nx al ls (.ref k :: r) h Q)))
    | .aastore => (mm_rir st (fun v i o r => mm_rar h.2 o (fun c n f => vp_in i n ∧ mm_obj h.2 v c (fun _ => X d μ nx al ls r (h.1, mU h.2 o (mR c n (va_up f i.toNatClampNeg (some v)))) Q))))
    | .arraylength => (mm_r1 st (fun o r => mm_alen h.2 o (fun n => X d μ nx al ls (.int (Int32.ofNat n) :: r) h Q)))
    | .invokestatic _ => (mm_bb (Nat.beq a 1001) (mm_iirir st (fun n dp o1 sp o0 r => mm_few r (mm_dd d (fun _ => mm_arw h.2 o0 (fun n0 f => mm_arw h.2 o1 (fun n1 g => mm_full ≤ h.1 ∧ mm_cpc n0 n1 sp dp n ∧ X d μ nx al ls r (h.1, mU h.2 o1 (mI n1 (va_cpy f g sp.toNatClampNeg dp.toNatClampNeg n.toNatClampNeg))) Q)))))) (mm_bb (Nat.beq a 1002) (mm_i2 st (fun y x r => mm_few r (mm_dd d (fun _ => X d μ nx al ls (.int (if x < y then y else x) :: r) h Q)))) (mm_bb (Nat.beq a 1003) (mm_i2 st (fun y x r => mm_few r (mm_dd d (fun _ => X d μ nx al ls (.int (if y < x then y else x) :: r) h Q)))) (mm_pop b st [] (fun args rest => mm_inv X E d μ nx al ls h Q a args rest)))))
    | .invokevirtual _ => (mm_pop b st [] (fun args rest => mm_r1 args (fun o _ => mm_obj h.2 o (mm_rc a) (fun _ => mm_inv X E d μ nx al ls h Q a args rest))))
    | .invokespecial _ => (mm_bb (Nat.beq a 1000) (mm_r1 st (fun _ r => mm_few r (mm_dd d (fun _ => X d μ nx al ls r h Q)))) (mm_pop b st [] (fun args rest => mm_r1 args (fun _ _ => mm_inv X E d μ nx al ls h Q a args rest))))
    | .ireturn => (match st with
    | [.int x] => (match mm_rt μ with | some .boolean => (x = 0 ∨ x = 1) ∧ Q (some (.int x)) h | _ => Q (some (.int x)) h)
    | _ => False)
    | .lreturn => (match st with
    | [.long x] => Q (some (.long x)) h
    | _ => False)
    | .return_ => (match st with
    | [] => Q none h
    | _ => False)
    | _ => False
theorem mm_stepI_mono {X E Y F : mm_X} (hX : ∀ d μ ip al ls st h Q, X d μ ip al ls st h Q → Y d μ ip al ls st h Q) (hE : ∀ d μ ip al ls st h Q, E d μ ip al ls st h Q → F d μ ip al ls st h Q) (hF : ∀ d μ ip al ls st h Q Q', (∀ r h', Q r h' → Q' r h') → F d μ ip al ls st h Q → F d μ ip al ls st h Q')
    {q : mm_N} {d μ : Nat} {al : Nat × Nat} {ls st : List Value} {h : mm_H} {Q : mm_K} : mm_stepI q X E d μ al ls st h Q → mm_stepI q Y F d μ al ls st h Q := by
  obtain ⟨pc, i, nx, a, b, cv, cut⟩ := q
  cases i
  case iload_n => exact mm_ldI_mono (fun _ => hX _ _ _ _ _ _ _ _)
  case iload => exact mm_ldI_mono (fun _ => hX _ _ _ _ _ _ _ _)
  case lload_n => exact mm_ldL_mono (fun _ => hX _ _ _ _ _ _ _ _)
  case lload => exact mm_ldL_mono (fun _ => hX _ _ _ _ _ _ _ _)
  case aload_n => exact mm_ldR_mono (fun _ => hX _ _ _ _ _ _ _ _)
  case aload => exact mm_ldR_mono (fun _ => hX _ _ _ _ _ _ _ _)
  case istore_n => exact mm_i1_mono (fun x r q => (mm_st_of (mm_st_inv q).1 (hX _ _ _ _ _ _ _ _ (mm_st_inv q).2.1) (mm_st_inv q).2.2))
  case istore => exact mm_i1_mono (fun x r q => (mm_st_of (mm_st_inv q).1 (hX _ _ _ _ _ _ _ _ (mm_st_inv q).2.1) (mm_st_inv q).2.2))
  case astore_n => exact mm_r1_mono (fun x r q => (mm_st_of (mm_st_inv q).1 (hX _ _ _ _ _ _ _ _ (mm_st_inv q).2.1) (mm_st_inv q).2.2))
  case astore => exact mm_r1_mono (fun x r q => (mm_st_of (mm_st_inv q).1 (hX _ _ _ _ _ _ _ _ (mm_st_inv q).2.1) (mm_st_inv q).2.2))
  case lstore_n => exact mm_l1_mono (fun x r q => (mm_st2_of (mm_st2_inv q).1 (hX _ _ _ _ _ _ _ _ (mm_st2_inv q).2.1) (mm_st2_inv q).2.2))
  case lstore => exact mm_l1_mono (fun x r q => (mm_st2_of (mm_st2_inv q).1 (hX _ _ _ _ _ _ _ _ (mm_st2_inv q).2.1) (mm_st2_inv q).2.2))
  case iinc => exact mm_ldI_mono (fun x q => by
      cases cv <;> first
        | exact q.elim
        | exact mm_st_of (mm_st_inv q).1 (hX _ _ _ _ _ _ _ _ (mm_st_inv q).2.1) (mm_st_inv q).2.2)
  case iconst => exact hX _ _ _ _ _ _ _ _
  case bipush => exact hX _ _ _ _ _ _ _ _
  case sipush => exact hX _ _ _ _ _ _ _ _
  case ldc => exact hX _ _ _ _ _ _ _ _
  case ldc_w => exact hX _ _ _ _ _ _ _ _
  case lconst => exact hX _ _ _ _ _ _ _ _
  case ldc2_w => exact hX _ _ _ _ _ _ _ _
  case getstatic => exact hX _ _ _ _ _ _ _ _
  case iadd => exact mm_i2_mono (fun _ _ _ => hX _ _ _ _ _ _ _ _)
  case isub => exact mm_i2_mono (fun _ _ _ => hX _ _ _ _ _ _ _ _)
  case imul => exact mm_i2_mono (fun _ _ _ => hX _ _ _ _ _ _ _ _)
  case iand => exact mm_i2_mono (fun _ _ _ => hX _ _ _ _ _ _ _ _)
  case ior => exact mm_i2_mono (fun _ _ _ => hX _ _ _ _ _ _ _ _)
  case ixor => exact mm_i2_mono (fun _ _ _ => hX _ _ _ _ _ _ _ _)
  case ishl => exact mm_i2_mono (fun _ _ _ => hX _ _ _ _ _ _ _ _)
  case ishr => exact mm_i2_mono (fun _ _ _ => hX _ _ _ _ _ _ _ _)
  case iushr => exact mm_i2_mono (fun _ _ _ => hX _ _ _ _ _ _ _ _)
  case idiv => exact mm_i2_mono (fun _ _ _ q => ⟨q.1, hX _ _ _ _ _ _ _ _ q.2⟩)
  case irem => exact mm_i2_mono (fun _ _ _ q => ⟨q.1, hX _ _ _ _ _ _ _ _ q.2⟩)
  case ladd => exact mm_l2_mono (fun _ _ _ => hX _ _ _ _ _ _ _ _)
  case lmul => exact mm_l2_mono (fun _ _ _ => hX _ _ _ _ _ _ _ _)
  case ldiv => exact mm_l2_mono (fun _ _ _ q => ⟨q.1, hX _ _ _ _ _ _ _ _ q.2⟩)
  case lrem => exact mm_l2_mono (fun _ _ _ q => ⟨q.1, hX _ _ _ _ _ _ _ _ q.2⟩)
  case lcmp => exact mm_l2_mono (fun _ _ _ => hX _ _ _ _ _ _ _ _)
  case ineg => exact mm_i1_mono (fun _ _ => hX _ _ _ _ _ _ _ _)
  case i2l => exact mm_i1_mono (fun _ _ => hX _ _ _ _ _ _ _ _)
  case i2b => exact mm_i1_mono (fun _ _ => hX _ _ _ _ _ _ _ _)
  case l2i => exact mm_l1_mono (fun _ _ => hX _ _ _ _ _ _ _ _)
  case dup => exact mm_v1_mono (fun _ _ => mm_b1_mono (hX _ _ _ _ _ _ _ _))
  case pop => exact mm_v1_mono (fun _ _ => mm_b1_mono (hX _ _ _ _ _ _ _ _))
  case dup2 => exact mm_v2_mono (fun _ _ _ => mm_b1_mono (hX _ _ _ _ _ _ _ _))
  case ifCond c off => cases c <;> exact mm_i1_mono (fun _ _ q => ⟨fun e => hX _ _ _ _ _ _ _ _ (q.1 e), fun e => hX _ _ _ _ _ _ _ _ (q.2 e)⟩)
  case if_icmp c off => cases c <;> exact mm_i2_mono (fun _ _ _ q => ⟨fun e => hX _ _ _ _ _ _ _ _ (q.1 e), fun e => hX _ _ _ _ _ _ _ _ (q.2 e)⟩)
  case goto => exact hX _ _ _ _ _ _ _ _
  case tableswitch => exact mm_i1_mono (fun _ _ => mm_sw_mono (fun _ => hX _ _ _ _ _ _ _ _))
  case newarray => exact mm_i1_mono (fun _ _ q => ⟨q.1, q.2.1, q.2.2.1, q.2.2.2.1, hX _ _ _ _ _ _ _ _ q.2.2.2.2⟩)
  case anewarray => exact mm_i1_mono (fun _ _ q => ⟨q.1, q.2.1, q.2.2.1, q.2.2.2.1, hX _ _ _ _ _ _ _ _ q.2.2.2.2⟩)
  case new => exact fun q => ⟨q.1, q.2.1, q.2.2.1, hX _ _ _ _ _ _ _ _ q.2.2.2⟩
  case getfield => exact mm_r1_mono (fun _ _ => mm_obj_mono (fun _ q => by
      obtain ⟨v, q1, q2⟩ := mm_ld_inv q
      exact mm_ld_of q1 (hX _ _ _ _ _ _ _ _ q2)))
  case putfield => exact mm_vr_mono (fun _ _ _ => mm_obj_mono (fun _ q => by
      obtain ⟨v, q1, q2⟩ := mm_ld_inv q
      exact mm_ld_of q1 (mm_b1_mono (fun q3 => mm_set_of (mm_set_inv q3).1 (hX _ _ _ _ _ _ _ _ (mm_set_inv q3).2)) q2)))
  case iaload => exact mm_ir_mono (fun _ _ _ => mm_arr_mono (fun _ _ q => ⟨q.1, hX _ _ _ _ _ _ _ _ q.2⟩))
  case iastore => exact mm_iir_mono (fun _ _ _ _ => mm_arw_mono (fun _ _ q => ⟨q.1, hX _ _ _ _ _ _ _ _ q.2⟩))
  case aaload => exact mm_ir_mono (fun _ _ _ => mm_rar_mono (fun _ _ _ q => ⟨q.1, by
      obtain ⟨k, q1, q2⟩ := q.2
      exact ⟨k, q1, hX _ _ _ _ _ _ _ _ q2⟩⟩))
  case aastore => exact mm_rir_mono (fun _ _ _ _ => mm_rar_mono (fun _ _ _ q => ⟨q.1, mm_obj_mono (fun _ => hX _ _ _ _ _ _ _ _) q.2⟩))
  case arraylength => exact mm_r1_mono (fun _ _ => mm_alen_mono (fun _ => hX _ _ _ _ _ _ _ _))
  case invokestatic => exact mm_bb_mono (mm_iirir_mono (fun _ _ _ _ _ _ => mm_few_mono (mm_dd_mono (fun _ => mm_arw_mono (fun _ _ => mm_arw_mono (fun _ _ q => ⟨q.1, q.2.1, hX _ _ _ _ _ _ _ _ q.2.2⟩)))))) (mm_bb_mono (mm_i2_mono (fun _ _ _ => mm_few_mono (mm_dd_mono (fun _ => hX _ _ _ _ _ _ _ _)))) (mm_bb_mono (mm_i2_mono (fun _ _ _ => mm_few_mono (mm_dd_mono (fun _ => hX _ _ _ _ _ _ _ _)))) (mm_pop_mono (fun _ _ => mm_inv_mono hX hE hF))))
  case invokevirtual => exact mm_pop_mono (fun _ _ => mm_r1_mono (fun _ _ => mm_obj_mono (fun _ => mm_inv_mono hX hE hF)))
  case invokespecial => exact mm_bb_mono (mm_r1_mono (fun _ _ => mm_few_mono (mm_dd_mono (fun _ => hX _ _ _ _ _ _ _ _)))) (mm_pop_mono (fun _ _ => mm_r1_mono (fun _ _ => mm_inv_mono hX hE hF)))
  case ireturn => exact id
  case lreturn => exact id
  case return_ => exact id
  all_goals exact fun q => q.elim
def mm_mono (X : mm_X) : Prop := ∀ d μ ip al ls st h Q Q', (∀ r h', Q r h' → Q' r h') → X d μ ip al ls st h Q → X d μ ip al ls st h Q'
def mm_step (X E : mm_X) : mm_X := fun d μ ip al ls st h Q => match mm_at μ ip with | some q => mm_stepI q X E d μ al ls st h Q | none => False
theorem mm_step_mono {X E Y F : mm_X} (hX : ∀ d μ ip al ls st h Q, X d μ ip al ls st h Q → Y d μ ip al ls st h Q) (hE : ∀ d μ ip al ls st h Q, E d μ ip al ls st h Q → F d μ ip al ls st h Q) (hF : mm_mono F)
    {d μ ip : Nat} {al : Nat × Nat} {ls st : List Value} {h : mm_H} {Q : mm_K} : mm_step X E d μ ip al ls st h Q → mm_step Y F d μ ip al ls st h Q := by
  unfold mm_step
  cases mm_at μ ip with
  | none => exact id
  | some q => exact mm_stepI_mono hX hE hF
/-- the least that is closed under steps -/
def mm_Ex : mm_X := fun d μ ip al ls st h Q => ∀ X : mm_X, mm_mono X → (∀ d μ ip al ls st h Q, mm_step X X d μ ip al ls st h Q → X d μ ip al ls st h Q) → X d μ ip al ls st h Q
theorem mm_Ex_mono : mm_mono mm_Ex := fun _ _ _ _ _ _ _ _ _ hq h X hm hc => hm _ _ _ _ _ _ _ _ _ hq (h X hm hc)
theorem mm_Ex_step {d μ ip : Nat} {al : Nat × Nat} {ls st : List Value} {h : mm_H} {Q : mm_K} (q : mm_step mm_Ex mm_Ex d μ ip al ls st h Q) : mm_Ex d μ ip al ls st h Q :=
  fun X hm hc => hc _ _ _ _ _ _ _ _ (mm_step_mono (fun _ _ _ _ _ _ _ _ z => z X hm hc) (fun _ _ _ _ _ _ _ _ z => z X hm hc) hm q)
def mm_wp : Nat → mm_X
  | 0 => mm_Ex
  | n + 1 => fun d μ ip al ls st h Q => match mm_at μ ip with
    | some (pc, i, nx, a, b, cv, cut) => (match cut with | true => mm_Ex d μ ip al ls st h Q | false => mm_stepI (pc, i, nx, a, b, cv, cut) (mm_wp n) mm_Ex d μ al ls st h Q)
    | none => False
theorem mm_wp_Ex : ∀ (n d μ ip : Nat) (al : Nat × Nat) (ls st : List Value) (h : mm_H) (Q : mm_K), mm_wp n d μ ip al ls st h Q → mm_Ex d μ ip al ls st h Q
  | 0, _, _, _, _, _, _, _, _, q => q
  | n + 1, d, μ, ip, al, ls, st, h, Q, q => by
    unfold mm_wp at q
    cases e : mm_at μ ip with
    | none => rw [e] at q; exact q.elim
    | some z =>
      rw [e] at q
      obtain ⟨pc, i, nx, a, b, cv, cut⟩ := z
      cases cut with
      | true => exact q
      | false =>
        refine mm_Ex_step ?_
        unfold mm_step
        rw [e]
        exact mm_stepI_mono (mm_wp_Ex n) (fun _ _ _ _ _ _ _ _ z => z) mm_Ex_mono q
/-- a run of at most n + 1 instructions, the first one a cut or not -/
theorem mm_run (n : Nat) {d μ ip : Nat} {al : Nat × Nat} {ls st : List Value} {h : mm_H} {Q : mm_K} (q : mm_step (mm_wp n) mm_Ex d μ ip al ls st h Q) : mm_Ex d μ ip al ls st h Q :=
  mm_Ex_step (mm_step_mono (mm_wp_Ex n) (fun _ _ _ _ _ _ _ _ z => z) mm_Ex_mono q)
end
section
def mm_cls : List vw_C := [(RX0, TX0, 8), (RX1, TX1, 7), (RX2, TX2, 3), (RX3, TX3, 2), (RX4, TX4, 5), (RX5, TX5, 13), (RX6, TX6, 27)]
def mm_nest : Cond → Bool
  | .methodLinkNest _ _ _ _ => true
  | .fieldLinkNest _ _ _ _ _ _ => true
  | _ => false
def mm_gt : List Cond := lw_tbl.filter goodWord
def mm_isw (n : Nat) (x : Cond) : Bool := match mm_get lw_tbl n with | some y => decide (y = x) | none => false
theorem mm_isw_in {n : Nat} {x : Cond} (h : mm_isw n x = true) : x ∈ lw_tbl := by
  unfold mm_isw at h
  rw [mm_get_eq] at h
  split at h
  · rename_i y e
    have e2 : y = x := of_decide_eq_true h
    subst e2
    exact List.mem_of_getElem? e
  · cases h
def mm_wd (n : Nat) (x : Cond) : Bool := goodWord x && mm_isw n x
def mm_nw (n : Nat) (x : Cond) : Bool := mm_nest x && mm_isw n x
theorem mm_wd_in {n : Nat} {x : Cond} (h : mm_wd n x = true) : x ∈ mm_gt := by
  unfold mm_wd at h
  rw [Bool.and_eq_true] at h
  exact List.mem_filter.mpr ⟨mm_isw_in h.2, h.1⟩
theorem mm_nw_in {n : Nat} {x : Cond} (h : mm_nw n x = true) : mm_nest x = true ∧ x ∈ lw_tbl := by
  unfold mm_nw at h
  rw [Bool.and_eq_true] at h
  exact ⟨h.1, mm_isw_in h.2⟩
def mm_li0 (n k : Nat) : Nat := match n with
  | 0 => (bif Nat.blt k 163 then (bif Nat.blt k 78 then (bif Nat.blt k 38 then (bif Nat.blt k 21 then (bif Nat.blt k 15 then (bif Nat.blt k 9 then 68 else (bif Nat.blt k 11 then 71 else 213)) else (bif Nat.blt k 18 then 214 else (bif Nat.blt k 20 then 73 else 75))) else (bif Nat.blt k 31 then (bif Nat.blt k 25 then 215 else (bif Nat.blt k 29 then 216 else 114)) else (bif Nat.blt k 32 then 116 else (bif Nat.blt k 36 then 217 else 152)))) else (bif Nat.blt k 54 then (bif Nat.blt k 45 then (bif Nat.blt k 39 then 154 else (bif Nat.blt k 43 then 218 else 188)) else (bif Nat.blt k 46 then 190 else (bif Nat.blt k 50 then 219 else 220))) else (bif Nat.blt k 64 then (bif Nat.blt k 57 then 221 else (bif Nat.blt k 61 then 222 else 223)) else (bif Nat.blt k 71 then (bif Nat.blt k 68 then 224 else 225) else (bif Nat.blt k 74 then 212 else 257))))) else (bif Nat.blt k 122 then (bif Nat.blt k 101 then (bif Nat.blt k 90 then (bif Nat.blt k 82 then 261 else (bif Nat.blt k 86 then 279 else 292)) else (bif Nat.blt k 94 then 301 else (bif Nat.blt k 97 then 309 else 283))) else (bif Nat.blt k 110 then (bif Nat.blt k 104 then 264 else (bif Nat.blt k 107 then 314 else 322)) else (bif Nat.blt k 113 then 132 else (bif Nat.blt k 119 then 326 else 135)))) else (bif Nat.blt k 141 then (bif Nat.blt k 133 then (bif Nat.blt k 126 then 333 else (bif Nat.blt k 130 then 349 else 142)) else (bif Nat.blt k 137 then 402 else (bif Nat.blt k 140 then 408 else 96))) else (bif Nat.blt k 151 then (bif Nat.blt k 145 then 413 else (bif Nat.blt k 148 then 414 else 81)) else (bif Nat.blt k 157 then (bif Nat.blt k 154 then 426 else 429) else (bif Nat.blt k 160 then 433 else 434)))))) else (bif Nat.blt k 243 then (bif Nat.blt k 203 then (bif Nat.blt k 183 then (bif Nat.blt k 174 then (bif Nat.blt k 168 then 442 else (bif Nat.blt k 171 then 448 else 479)) else (bif Nat.blt k 177 then 85 else (bif Nat.blt k 180 then 92 else 495))) else (bif Nat.blt k 193 then (bif Nat.blt k 187 then 496 else (bif Nat.blt k 190 then 509 else 452)) else (bif Nat.blt k 196 then 517 else (bif Nat.blt k 200 then 522 else 197)))) else (bif Nat.blt k 221 then (bif Nat.blt k 212 then (bif Nat.blt k 206 then 195 else (bif Nat.blt k 209 then 534 else 538)) else (bif Nat.blt k 215 then 546 else (bif Nat.blt k 218 then 553 else 557))) else (bif Nat.blt k 231 then (bif Nat.blt k 224 then 562 else (bif Nat.blt k 227 then 83 else 578)) else (bif Nat.blt k 237 then (bif Nat.blt k 234 then 609 else 617) else (bif Nat.blt k 240 then 622 else 631))))) else (bif Nat.blt k 274 then (bif Nat.blt k 259 then (bif Nat.blt k 250 then (bif Nat.blt k 246 then 649 else (bif Nat.blt k 249 then 654 else 159)) else (bif Nat.blt k 253 then 662 else (bif Nat.blt k 256 then 90 else 667))) else (bif Nat.blt k 264 then (bif Nat.blt k 260 then 679 else (bif Nat.blt k 262 then 680 else 681)) else (bif Nat.blt k 270 then (bif Nat.blt k 267 then 682 else 707) else (bif Nat.blt k 272 then 731 else 732)))) else (bif Nat.blt k 294 then (bif Nat.blt k 283 then (bif Nat.blt k 278 then 733 else (bif Nat.blt k 282 then 268 else 287)) else (bif Nat.blt k 286 then 167 else (bif Nat.blt k 290 then 458 else 582))) else (bif Nat.blt k 301 then (bif Nat.blt k 297 then 586 else (bif Nat.blt k 298 then 170 else 593)) else (bif Nat.blt k 307 then (bif Nat.blt k 304 then 165 else 686) else (bif Nat.blt k 311 then 711 else 714)))))))
  | 1 => (bif Nat.blt k 40 then (bif Nat.blt k 24 then (bif Nat.blt k 15 then (bif Nat.blt k 9 then 157 else 158) else (bif Nat.blt k 18 then 160 else (bif Nat.blt k 21 then 161 else 162))) else (bif Nat.blt k 30 then (bif Nat.blt k 27 then 163 else 164) else (bif Nat.blt k 34 then 166 else (bif Nat.blt k 37 then 168 else 94)))) else (bif Nat.blt k 55 then (bif Nat.blt k 45 then (bif Nat.blt k 41 then 80 else 456) else (bif Nat.blt k 48 then 87 else (bif Nat.blt k 52 then 457 else 89))) else (bif Nat.blt k 63 then (bif Nat.blt k 58 then 470 else 473) else (bif Nat.blt k 66 then 466 else (bif Nat.blt k 69 then 474 else 478)))))
  | 2 => (bif Nat.blt k 42 then (bif Nat.blt k 24 then (bif Nat.blt k 15 then (bif Nat.blt k 9 then 78 else 79) else (bif Nat.blt k 18 then 82 else (bif Nat.blt k 21 then 84 else 86))) else (bif Nat.blt k 30 then (bif Nat.blt k 27 then 88 else 91) else (bif Nat.blt k 34 then 93 else (bif Nat.blt k 38 then 357 else 386)))) else (bif Nat.blt k 61 then (bif Nat.blt k 49 then (bif Nat.blt k 45 then 690 else 406) else (bif Nat.blt k 53 then 407 else (bif Nat.blt k 57 then 418 else 438))) else (bif Nat.blt k 69 then (bif Nat.blt k 64 then 718 else 626) else (bif Nat.blt k 72 then 635 else (bif Nat.blt k 76 then 636 else 653)))))
  | 3 => (bif Nat.blt k 40 then (bif Nat.blt k 20 then (bif Nat.blt k 11 then (bif Nat.blt k 9 then 119 else 120) else (bif Nat.blt k 12 then 121 else (bif Nat.blt k 18 then 141 else 122))) else (bif Nat.blt k 31 then (bif Nat.blt k 23 then 124 else (bif Nat.blt k 27 then 143 else 144)) else (bif Nat.blt k 34 then 353 else (bif Nat.blt k 37 then 358 else 134)))) else (bif Nat.blt k 56 then (bif Nat.blt k 48 then (bif Nat.blt k 44 then 363 else 362) else (bif Nat.blt k 52 then 367 else (bif Nat.blt k 53 then 95 else 377))) else (bif Nat.blt k 66 then (bif Nat.blt k 60 then 381 else (bif Nat.blt k 63 then 371 else 382)) else (bif Nat.blt k 69 then 390 else (bif Nat.blt k 73 then 394 else 375)))))
  | 4 => (bif Nat.blt k 23 then (bif Nat.blt k 13 then (bif Nat.blt k 7 then 127 else 133) else (bif Nat.blt k 19 then 128 else 131)) else (bif Nat.blt k 33 then (bif Nat.blt k 29 then 291 else 300) else (bif Nat.blt k 37 then 296 else (bif Nat.blt k 40 then 272 else 737))))
  | 5 => (bif Nat.blt k 25 then (bif Nat.blt k 15 then (bif Nat.blt k 9 then 193 else 194) else (bif Nat.blt k 19 then 196 else (bif Nat.blt k 22 then 198 else 199))) else (bif Nat.blt k 37 then (bif Nat.blt k 28 then 200 else (bif Nat.blt k 33 then 169 else 462)) else (bif Nat.blt k 41 then 590 else (bif Nat.blt k 44 then 591 else 592))))
  | 6 => (bif Nat.blt k 110 then (bif Nat.blt k 60 then (bif Nat.blt k 32 then (bif Nat.blt k 18 then (bif Nat.blt k 12 then (bif Nat.blt k 9 then 63 else (bif Nat.blt k 10 then 65 else 738)) else (bif Nat.blt k 13 then 740 else (bif Nat.blt k 17 then 253 else 826))) else (bif Nat.blt k 26 then (bif Nat.blt k 22 then 275 else (bif Nat.blt k 23 then 840 else 305)) else (bif Nat.blt k 27 then 848 else (bif Nat.blt k 31 then 310 else 852)))) else (bif Nat.blt k 45 then (bif Nat.blt k 40 then (bif Nat.blt k 36 then 318 else (bif Nat.blt k 37 then 856 else 329)) else (bif Nat.blt k 41 then 864 else (bif Nat.blt k 44 then 337 else 868))) else (bif Nat.blt k 52 then (bif Nat.blt k 48 then 341 else (bif Nat.blt k 49 then 875 else 345)) else (bif Nat.blt k 56 then (bif Nat.blt k 53 then 879 else 398) else (bif Nat.blt k 57 then 914 else 409))))) else (bif Nat.blt k 84 then (bif Nat.blt k 72 then (bif Nat.blt k 65 then (bif Nat.blt k 61 then 918 else (bif Nat.blt k 64 then 422 else 934)) else (bif Nat.blt k 68 then 483 else (bif Nat.blt k 69 then 972 else 487))) else (bif Nat.blt k 77 then (bif Nat.blt k 73 then 976 else (bif Nat.blt k 76 then 491 else 980)) else (bif Nat.blt k 80 then 497 else (bif Nat.blt k 81 then 984 else 501)))) else (bif Nat.blt k 97 then (bif Nat.blt k 89 then (bif Nat.blt k 85 then 988 else (bif Nat.blt k 88 then 505 else 992)) else (bif Nat.blt k 92 then 513 else (bif Nat.blt k 93 then 996 else 518))) else (bif Nat.blt k 102 then (bif Nat.blt k 98 then 1004 else (bif Nat.blt k 101 then 526 else 1016)) else (bif Nat.blt k 106 then (bif Nat.blt k 105 then 530 else 1020) else (bif Nat.blt k 109 then 542 else 1028)))))) else (bif Nat.blt k 161 then (bif Nat.blt k 134 then (bif Nat.blt k 122 then (bif Nat.blt k 117 then (bif Nat.blt k 113 then 549 else (bif Nat.blt k 114 then 1032 else 558)) else (bif Nat.blt k 118 then 1036 else (bif Nat.blt k 121 then 566 else 1044))) else (bif Nat.blt k 129 then (bif Nat.blt k 125 then 570 else (bif Nat.blt k 126 then 1048 else 574)) else (bif Nat.blt k 130 then 1052 else (bif Nat.blt k 133 then 597 else 1072)))) else (bif Nat.blt k 146 then (bif Nat.blt k 141 then (bif Nat.blt k 137 then 601 else (bif Nat.blt k 138 then 1076 else 605)) else (bif Nat.blt k 142 then 1080 else (bif Nat.blt k 145 then 613 else 1091))) else (bif Nat.blt k 153 then (bif Nat.blt k 149 then 618 else (bif Nat.blt k 150 then 1095 else 627)) else (bif Nat.blt k 157 then (bif Nat.blt k 154 then 1102 else 637) else (bif Nat.blt k 158 then 1110 else 641))))) else (bif Nat.blt k 185 then (bif Nat.blt k 173 then (bif Nat.blt k 166 then (bif Nat.blt k 162 then 1114 else (bif Nat.blt k 165 then 645 else 1118)) else (bif Nat.blt k 169 then 658 else (bif Nat.blt k 170 then 1126 else 663))) else (bif Nat.blt k 178 then (bif Nat.blt k 174 then 1130 else (bif Nat.blt k 177 then 671 else 1134)) else (bif Nat.blt k 181 then 675 else (bif Nat.blt k 182 then 1138 else 691)))) else (bif Nat.blt k 198 then (bif Nat.blt k 191 then (bif Nat.blt k 186 then 1153 else (bif Nat.blt k 190 then 695 else 1157)) else (bif Nat.blt k 194 then 699 else (bif Nat.blt k 195 then 1161 else 703))) else (bif Nat.blt k 203 then (bif Nat.blt k 199 then 1165 else (bif Nat.blt k 202 then 719 else 1173)) else (bif Nat.blt k 207 then (bif Nat.blt k 206 then 723 else 1177) else (bif Nat.blt k 210 then 727 else 1181)))))))
  | 7 => (bif Nat.blt k 132 then (bif Nat.blt k 65 then (bif Nat.blt k 35 then (bif Nat.blt k 19 then (bif Nat.blt k 13 then (bif Nat.blt k 7 then 743 else 744) else (bif Nat.blt k 16 then 745 else 746)) else (bif Nat.blt k 25 then (bif Nat.blt k 22 then 747 else 748) else (bif Nat.blt k 28 then 750 else (bif Nat.blt k 32 then 753 else 755)))) else (bif Nat.blt k 50 then (bif Nat.blt k 41 then (bif Nat.blt k 38 then 756 else 757) else (bif Nat.blt k 44 then 758 else (bif Nat.blt k 47 then 759 else 760))) else (bif Nat.blt k 56 then (bif Nat.blt k 53 then 761 else 762) else (bif Nat.blt k 59 then 764 else (bif Nat.blt k 62 then 767 else 768))))) else (bif Nat.blt k 97 then (bif Nat.blt k 80 then (bif Nat.blt k 72 then (bif Nat.blt k 69 then 749 else 751) else (bif Nat.blt k 76 then 833 else 830)) else (bif Nat.blt k 87 then (bif Nat.blt k 84 then 836 else 844) else (bif Nat.blt k 90 then 860 else (bif Nat.blt k 93 then 872 else 887)))) else (bif Nat.blt k 114 then (bif Nat.blt k 103 then (bif Nat.blt k 100 then 766 else 765) else (bif Nat.blt k 107 then 898 else (bif Nat.blt k 111 then 902 else 895))) else (bif Nat.blt k 121 then (bif Nat.blt k 118 then 906 else 891) else (bif Nat.blt k 124 then 754 else (bif Nat.blt k 128 then 910 else 883)))))) else (bif Nat.blt k 192 then (bif Nat.blt k 160 then (bif Nat.blt k 145 then (bif Nat.blt k 138 then (bif Nat.blt k 135 then 930 else 922) else (bif Nat.blt k 141 then 926 else 938)) else (bif Nat.blt k 151 then (bif Nat.blt k 148 then 941 else 945) else (bif Nat.blt k 154 then 964 else (bif Nat.blt k 157 then 968 else 763)))) else (bif Nat.blt k 176 then (bif Nat.blt k 167 then (bif Nat.blt k 163 then 949 else 960) else (bif Nat.blt k 170 then 956 else (bif Nat.blt k 173 then 1000 else 952))) else (bif Nat.blt k 183 then (bif Nat.blt k 180 then 1008 else 1012) else (bif Nat.blt k 186 then 769 else (bif Nat.blt k 189 then 770 else 1024))))) else (bif Nat.blt k 222 then (bif Nat.blt k 207 then (bif Nat.blt k 198 then (bif Nat.blt k 195 then 752 else 1040) else (bif Nat.blt k 201 then 1060 else (bif Nat.blt k 204 then 1063 else 1067))) else (bif Nat.blt k 213 then (bif Nat.blt k 210 then 1071 else 1056) else (bif Nat.blt k 216 then 1088 else (bif Nat.blt k 219 then 1084 else 1099)))) else (bif Nat.blt k 233 then (bif Nat.blt k 228 then (bif Nat.blt k 225 then 1106 else 1122) else (bif Nat.blt k 229 then 1142 else (bif Nat.blt k 231 then 1143 else 1144))) else (bif Nat.blt k 239 then (bif Nat.blt k 236 then 1145 else 1149) else (bif Nat.blt k 242 then 1169 else (bif Nat.blt k 244 then 1185 else 1186)))))))
  | 8 => (bif Nat.blt k 266 then 445 else (bif Nat.blt k 267 then 446 else 447))
  | _ => 0
def mm_cn (n : Nat) : Nat := (bif Nat.blt n 105 then (bif Nat.blt n 52 then (bif Nat.blt n 26 then (bif Nat.blt n 13 then (bif Nat.blt n 6 then (bif Nat.blt n 3 then (bif Nat.blt n 1 then 1 else (bif Nat.blt n 2 then 1 else 1)) else (bif Nat.blt n 4 then 1 else (bif Nat.blt n 5 then 1 else 1))) else (bif Nat.blt n 9 then (bif Nat.blt n 7 then 1 else (bif Nat.blt n 8 then 2 else 2)) else (bif Nat.blt n 11 then (bif Nat.blt n 10 then 2 else 2) else (bif Nat.blt n 12 then 2 else 2)))) else (bif Nat.blt n 19 then (bif Nat.blt n 16 then (bif Nat.blt n 14 then 2 else (bif Nat.blt n 15 then 2 else 2)) else (bif Nat.blt n 17 then 2 else (bif Nat.blt n 18 then 2 else 2))) else (bif Nat.blt n 22 then (bif Nat.blt n 20 then 2 else (bif Nat.blt n 21 then 2 else 2)) else (bif Nat.blt n 24 then (bif Nat.blt n 23 then 2 else 2) else (bif Nat.blt n 25 then 2 else 2))))) else (bif Nat.blt n 39 then (bif Nat.blt n 32 then (bif Nat.blt n 29 then (bif Nat.blt n 27 then 3 else (bif Nat.blt n 28 then 3 else 3)) else (bif Nat.blt n 30 then 3 else (bif Nat.blt n 31 then 3 else 3))) else (bif Nat.blt n 35 then (bif Nat.blt n 33 then 3 else (bif Nat.blt n 34 then 3 else 4)) else (bif Nat.blt n 37 then (bif Nat.blt n 36 then 4 else 4) else (bif Nat.blt n 38 then 4 else 4)))) else (bif Nat.blt n 45 then (bif Nat.blt n 42 then (bif Nat.blt n 40 then 4 else (bif Nat.blt n 41 then 4 else 4)) else (bif Nat.blt n 43 then 4 else (bif Nat.blt n 44 then 4 else 5))) else (bif Nat.blt n 48 then (bif Nat.blt n 46 then 5 else (bif Nat.blt n 47 then 5 else 5)) else (bif Nat.blt n 50 then (bif Nat.blt n 49 then 5 else 5) else (bif Nat.blt n 51 then 5 else 0)))))) else (bif Nat.blt n 78 then (bif Nat.blt n 65 then (bif Nat.blt n 58 then (bif Nat.blt n 55 then (bif Nat.blt n 53 then 0 else (bif Nat.blt n 54 then 0 else 0)) else (bif Nat.blt n 56 then 0 else (bif Nat.blt n 57 then 0 else 0))) else (bif Nat.blt n 61 then (bif Nat.blt n 59 then 0 else (bif Nat.blt n 60 then 0 else 0)) else (bif Nat.blt n 63 then (bif Nat.blt n 62 then 0 else 0) else (bif Nat.blt n 64 then 0 else 0)))) else (bif Nat.blt n 71 then (bif Nat.blt n 68 then (bif Nat.blt n 66 then 0 else (bif Nat.blt n 67 then 0 else 0)) else (bif Nat.blt n 69 then 0 else (bif Nat.blt n 70 then 0 else 0))) else (bif Nat.blt n 74 then (bif Nat.blt n 72 then 0 else (bif Nat.blt n 73 then 0 else 0)) else (bif Nat.blt n 76 then (bif Nat.blt n 75 then 0 else 0) else (bif Nat.blt n 77 then 0 else 0))))) else (bif Nat.blt n 91 then (bif Nat.blt n 84 then (bif Nat.blt n 81 then (bif Nat.blt n 79 then 0 else (bif Nat.blt n 80 then 0 else 0)) else (bif Nat.blt n 82 then 0 else (bif Nat.blt n 83 then 0 else 0))) else (bif Nat.blt n 87 then (bif Nat.blt n 85 then 0 else (bif Nat.blt n 86 then 0 else 0)) else (bif Nat.blt n 89 then (bif Nat.blt n 88 then 0 else 0) else (bif Nat.blt n 90 then 0 else 0)))) else (bif Nat.blt n 98 then (bif Nat.blt n 94 then (bif Nat.blt n 92 then 0 else (bif Nat.blt n 93 then 0 else 0)) else (bif Nat.blt n 96 then (bif Nat.blt n 95 then 0 else 0) else (bif Nat.blt n 97 then 0 else 0))) else (bif Nat.blt n 101 then (bif Nat.blt n 99 then 0 else (bif Nat.blt n 100 then 0 else 0)) else (bif Nat.blt n 103 then (bif Nat.blt n 102 then 0 else 0) else (bif Nat.blt n 104 then 0 else 0))))))) else (bif Nat.blt n 157 then (bif Nat.blt n 131 then (bif Nat.blt n 118 then (bif Nat.blt n 111 then (bif Nat.blt n 108 then (bif Nat.blt n 106 then 0 else (bif Nat.blt n 107 then 0 else 0)) else (bif Nat.blt n 109 then 0 else (bif Nat.blt n 110 then 0 else 0))) else (bif Nat.blt n 114 then (bif Nat.blt n 112 then 0 else (bif Nat.blt n 113 then 0 else 0)) else (bif Nat.blt n 116 then (bif Nat.blt n 115 then 0 else 0) else (bif Nat.blt n 117 then 7 else 7)))) else (bif Nat.blt n 124 then (bif Nat.blt n 121 then (bif Nat.blt n 119 then 7 else (bif Nat.blt n 120 then 7 else 7)) else (bif Nat.blt n 122 then 7 else (bif Nat.blt n 123 then 7 else 7))) else (bif Nat.blt n 127 then (bif Nat.blt n 125 then 7 else (bif Nat.blt n 126 then 7 else 7)) else (bif Nat.blt n 129 then (bif Nat.blt n 128 then 7 else 7) else (bif Nat.blt n 130 then 7 else 7))))) else (bif Nat.blt n 144 then (bif Nat.blt n 137 then (bif Nat.blt n 134 then (bif Nat.blt n 132 then 7 else (bif Nat.blt n 133 then 7 else 7)) else (bif Nat.blt n 135 then 7 else (bif Nat.blt n 136 then 7 else 7))) else (bif Nat.blt n 140 then (bif Nat.blt n 138 then 7 else (bif Nat.blt n 139 then 7 else 7)) else (bif Nat.blt n 142 then (bif Nat.blt n 141 then 7 else 7) else (bif Nat.blt n 143 then 7 else 7)))) else (bif Nat.blt n 150 then (bif Nat.blt n 147 then (bif Nat.blt n 145 then 7 else (bif Nat.blt n 146 then 7 else 7)) else (bif Nat.blt n 148 then 7 else (bif Nat.blt n 149 then 7 else 7))) else (bif Nat.blt n 153 then (bif Nat.blt n 151 then 7 else (bif Nat.blt n 152 then 7 else 7)) else (bif Nat.blt n 155 then (bif Nat.blt n 154 then 7 else 7) else (bif Nat.blt n 156 then 7 else 7)))))) else (bif Nat.blt n 183 then (bif Nat.blt n 170 then (bif Nat.blt n 163 then (bif Nat.blt n 160 then (bif Nat.blt n 158 then 7 else (bif Nat.blt n 159 then 7 else 7)) else (bif Nat.blt n 161 then 7 else (bif Nat.blt n 162 then 7 else 7))) else (bif Nat.blt n 166 then (bif Nat.blt n 164 then 7 else (bif Nat.blt n 165 then 7 else 7)) else (bif Nat.blt n 168 then (bif Nat.blt n 167 then 7 else 7) else (bif Nat.blt n 169 then 7 else 7)))) else (bif Nat.blt n 176 then (bif Nat.blt n 173 then (bif Nat.blt n 171 then 7 else (bif Nat.blt n 172 then 7 else 7)) else (bif Nat.blt n 174 then 7 else (bif Nat.blt n 175 then 7 else 7))) else (bif Nat.blt n 179 then (bif Nat.blt n 177 then 7 else (bif Nat.blt n 178 then 7 else 7)) else (bif Nat.blt n 181 then (bif Nat.blt n 180 then 7 else 7) else (bif Nat.blt n 182 then 7 else 7))))) else (bif Nat.blt n 196 then (bif Nat.blt n 189 then (bif Nat.blt n 186 then (bif Nat.blt n 184 then 7 else (bif Nat.blt n 185 then 7 else 7)) else (bif Nat.blt n 187 then 7 else (bif Nat.blt n 188 then 7 else 7))) else (bif Nat.blt n 192 then (bif Nat.blt n 190 then 7 else (bif Nat.blt n 191 then 7 else 7)) else (bif Nat.blt n 194 then (bif Nat.blt n 193 then 7 else 7) else (bif Nat.blt n 195 then 7 else 7)))) else (bif Nat.blt n 203 then (bif Nat.blt n 199 then (bif Nat.blt n 197 then 7 else (bif Nat.blt n 198 then 7 else 7)) else (bif Nat.blt n 201 then (bif Nat.blt n 200 then 7 else 7) else (bif Nat.blt n 202 then 7 else 7))) else (bif Nat.blt n 206 then (bif Nat.blt n 204 then 7 else (bif Nat.blt n 205 then 7 else 7)) else (bif Nat.blt n 208 then (bif Nat.blt n 207 then 7 else 7) else (bif Nat.blt n 209 then 8 else 6))))))))
def mm_li (μ k : Nat) : Nat := mm_li0 (mm_cn μ) k
def mm_mi (n : Nat) : Nat × Nat × Nat × Nat := (bif Nat.blt n 105 then (bif Nat.blt n 52 then (bif Nat.blt n 26 then (bif Nat.blt n 13 then (bif Nat.blt n 6 then (bif Nat.blt n 3 then (bif Nat.blt n 1 then (58, 156, 155, 0) else (bif Nat.blt n 2 then (58, 455, 453, 454) else (58, 670, 668, 669))) else (bif Nat.blt n 4 then (58, 596, 594, 595) else (bif Nat.blt n 5 then (58, 469, 467, 468) else (58, 465, 463, 464)))) else (bif Nat.blt n 9 then (bif Nat.blt n 7 then (58, 477, 476, 11) else (bif Nat.blt n 8 then (54, 77, 76, 0) else (54, 389, 387, 388))) else (bif Nat.blt n 11 then (bif Nat.blt n 10 then (54, 556, 554, 555) else (54, 385, 383, 384)) else (bif Nat.blt n 12 then (54, 689, 687, 688) else (54, 397, 395, 396))))) else (bif Nat.blt n 19 then (bif Nat.blt n 16 then (bif Nat.blt n 14 then (54, 356, 354, 355) else (bif Nat.blt n 15 then (54, 405, 403, 404) else (54, 417, 415, 416))) else (bif Nat.blt n 17 then (54, 421, 419, 420) else (bif Nat.blt n 18 then (54, 432, 430, 431) else (54, 441, 439, 440)))) else (bif Nat.blt n 22 then (bif Nat.blt n 20 then (54, 437, 435, 436) else (bif Nat.blt n 21 then (54, 565, 563, 564) else (54, 717, 715, 716))) else (bif Nat.blt n 24 then (bif Nat.blt n 23 then (54, 625, 623, 624) else (54, 634, 632, 633)) else (bif Nat.blt n 25 then (54, 652, 650, 651) else (54, 657, 655, 656)))))) else (bif Nat.blt n 39 then (bif Nat.blt n 32 then (bif Nat.blt n 29 then (bif Nat.blt n 27 then (55, 118, 117, 0) else (bif Nat.blt n 28 then (55, 352, 350, 351) else (55, 361, 360, 4))) else (bif Nat.blt n 30 then (55, 366, 365, 5) else (bif Nat.blt n 31 then (55, 374, 373, 7) else (55, 370, 369, 6)))) else (bif Nat.blt n 35 then (bif Nat.blt n 33 then (55, 380, 379, 8) else (bif Nat.blt n 34 then (55, 393, 392, 9) else (56, 126, 125, 0))) else (bif Nat.blt n 37 then (bif Nat.blt n 36 then (56, 286, 284, 285) else (56, 290, 288, 289)) else (bif Nat.blt n 38 then (56, 325, 323, 324) else (56, 299, 297, 298))))) else (bif Nat.blt n 45 then (bif Nat.blt n 42 then (bif Nat.blt n 40 then (56, 295, 293, 294) else (bif Nat.blt n 41 then (56, 271, 269, 270) else (56, 317, 315, 316))) else (bif Nat.blt n 43 then (56, 336, 334, 335) else (bif Nat.blt n 44 then (56, 736, 734, 735) else (59, 192, 191, 0)))) else (bif Nat.blt n 48 then (bif Nat.blt n 46 then (59, 461, 459, 460) else (bif Nat.blt n 47 then (59, 525, 523, 524) else (59, 541, 539, 540))) else (bif Nat.blt n 50 then (bif Nat.blt n 49 then (59, 537, 535, 536) else (59, 482, 480, 481)) else (bif Nat.blt n 51 then (59, 589, 587, 588) else (53, 67, 66, 0))))))) else (bif Nat.blt n 78 then (bif Nat.blt n 65 then (bif Nat.blt n 58 then (bif Nat.blt n 55 then (bif Nat.blt n 53 then (53, 256, 254, 255) else (bif Nat.blt n 54 then (53, 278, 276, 277) else (53, 308, 306, 307))) else (bif Nat.blt n 56 then (53, 313, 311, 312) else (bif Nat.blt n 57 then (53, 321, 319, 320) else (53, 332, 330, 331)))) else (bif Nat.blt n 61 then (bif Nat.blt n 59 then (53, 340, 338, 339) else (bif Nat.blt n 60 then (53, 344, 342, 343) else (53, 348, 346, 347))) else (bif Nat.blt n 63 then (bif Nat.blt n 62 then (53, 401, 399, 400) else (53, 412, 410, 411)) else (bif Nat.blt n 64 then (53, 425, 423, 424) else (53, 486, 484, 485))))) else (bif Nat.blt n 71 then (bif Nat.blt n 68 then (bif Nat.blt n 66 then (53, 490, 488, 489) else (bif Nat.blt n 67 then (53, 494, 492, 493) else (53, 500, 498, 499))) else (bif Nat.blt n 69 then (53, 504, 502, 503) else (bif Nat.blt n 70 then (53, 508, 506, 507) else (53, 516, 514, 515)))) else (bif Nat.blt n 74 then (bif Nat.blt n 72 then (53, 521, 519, 520) else (bif Nat.blt n 73 then (53, 529, 527, 528) else (53, 533, 531, 532))) else (bif Nat.blt n 76 then (bif Nat.blt n 75 then (53, 545, 543, 544) else (53, 552, 550, 551)) else (bif Nat.blt n 77 then (53, 561, 559, 560) else (53, 569, 567, 568)))))) else (bif Nat.blt n 91 then (bif Nat.blt n 84 then (bif Nat.blt n 81 then (bif Nat.blt n 79 then (53, 573, 571, 572) else (bif Nat.blt n 80 then (53, 577, 575, 576) else (53, 600, 598, 599))) else (bif Nat.blt n 82 then (53, 604, 602, 603) else (bif Nat.blt n 83 then (53, 608, 606, 607) else (53, 616, 614, 615)))) else (bif Nat.blt n 87 then (bif Nat.blt n 85 then (53, 621, 619, 620) else (bif Nat.blt n 86 then (53, 630, 628, 629) else (53, 640, 638, 639))) else (bif Nat.blt n 89 then (bif Nat.blt n 88 then (53, 644, 642, 643) else (53, 648, 646, 647)) else (bif Nat.blt n 90 then (53, 661, 659, 660) else (53, 666, 664, 665))))) else (bif Nat.blt n 98 then (bif Nat.blt n 94 then (bif Nat.blt n 92 then (53, 674, 672, 673) else (bif Nat.blt n 93 then (53, 678, 676, 677) else (53, 694, 692, 693))) else (bif Nat.blt n 96 then (bif Nat.blt n 95 then (53, 698, 696, 697) else (53, 702, 700, 701)) else (bif Nat.blt n 97 then (53, 706, 704, 705) else (53, 722, 720, 721)))) else (bif Nat.blt n 101 then (bif Nat.blt n 99 then (53, 726, 724, 725) else (bif Nat.blt n 100 then (53, 730, 728, 729) else (53, 263, 262, 0))) else (bif Nat.blt n 103 then (bif Nat.blt n 102 then (53, 472, 471, 0) else (53, 428, 427, 0)) else (bif Nat.blt n 104 then (53, 548, 547, 0) else (53, 267, 266, 1)))))))) else (bif Nat.blt n 157 then (bif Nat.blt n 131 then (bif Nat.blt n 118 then (bif Nat.blt n 111 then (bif Nat.blt n 108 then (bif Nat.blt n 106 then (53, 304, 303, 3) else (bif Nat.blt n 107 then (53, 260, 259, 0) else (53, 282, 281, 2))) else (bif Nat.blt n 109 then (53, 512, 511, 12) else (bif Nat.blt n 110 then (53, 451, 450, 10) else (53, 581, 580, 13)))) else (bif Nat.blt n 114 then (bif Nat.blt n 112 then (53, 585, 584, 14) else (bif Nat.blt n 113 then (53, 612, 611, 15) else (53, 685, 684, 16))) else (bif Nat.blt n 116 then (bif Nat.blt n 115 then (53, 710, 709, 17) else (53, 713, 712, 0)) else (bif Nat.blt n 117 then (60, 742, 741, 0) else (60, 835, 834, 0))))) else (bif Nat.blt n 124 then (bif Nat.blt n 121 then (bif Nat.blt n 119 then (60, 951, 950, 0) else (bif Nat.blt n 120 then (60, 1090, 1089, 0) else (60, 839, 838, 18))) else (bif Nat.blt n 122 then (60, 847, 846, 19) else (bif Nat.blt n 123 then (60, 832, 831, 0) else (60, 874, 873, 0)))) else (bif Nat.blt n 127 then (bif Nat.blt n 125 then (60, 829, 827, 828) else (bif Nat.blt n 126 then (60, 843, 841, 842) else (60, 851, 849, 850))) else (bif Nat.blt n 129 then (bif Nat.blt n 128 then (60, 855, 853, 854) else (60, 863, 862, 20)) else (bif Nat.blt n 130 then (60, 859, 857, 858) else (60, 867, 865, 866)))))) else (bif Nat.blt n 144 then (bif Nat.blt n 137 then (bif Nat.blt n 134 then (bif Nat.blt n 132 then (60, 871, 869, 870) else (bif Nat.blt n 133 then (60, 878, 876, 877) else (60, 890, 889, 22))) else (bif Nat.blt n 135 then (60, 897, 896, 0) else (bif Nat.blt n 136 then (60, 901, 900, 24) else (60, 905, 904, 25)))) else (bif Nat.blt n 140 then (bif Nat.blt n 138 then (60, 909, 908, 26) else (bif Nat.blt n 139 then (60, 894, 893, 23) else (60, 886, 885, 21))) else (bif Nat.blt n 142 then (bif Nat.blt n 141 then (60, 882, 880, 881) else (60, 913, 912, 27)) else (bif Nat.blt n 143 then (60, 917, 915, 916) else (60, 925, 924, 28))))) else (bif Nat.blt n 150 then (bif Nat.blt n 147 then (bif Nat.blt n 145 then (60, 1003, 1002, 38) else (bif Nat.blt n 146 then (60, 933, 932, 30) else (60, 929, 928, 29))) else (bif Nat.blt n 148 then (60, 921, 919, 920) else (bif Nat.blt n 149 then (60, 940, 939, 0) else (60, 967, 966, 36)))) else (bif Nat.blt n 153 then (bif Nat.blt n 151 then (60, 971, 970, 37) else (bif Nat.blt n 152 then (60, 937, 935, 936) else (60, 975, 973, 974))) else (bif Nat.blt n 155 then (bif Nat.blt n 154 then (60, 979, 977, 978) else (60, 983, 981, 982)) else (bif Nat.blt n 156 then (60, 987, 985, 986) else (60, 991, 989, 990))))))) else (bif Nat.blt n 183 then (bif Nat.blt n 170 then (bif Nat.blt n 163 then (bif Nat.blt n 160 then (bif Nat.blt n 158 then (60, 995, 993, 994) else (bif Nat.blt n 159 then (60, 944, 943, 31) else (60, 963, 962, 35))) else (bif Nat.blt n 161 then (60, 959, 958, 34) else (bif Nat.blt n 162 then (60, 955, 954, 33) else (60, 999, 997, 998)))) else (bif Nat.blt n 166 then (bif Nat.blt n 164 then (60, 1015, 1014, 40) else (bif Nat.blt n 165 then (60, 1011, 1010, 39) else (60, 948, 947, 32))) else (bif Nat.blt n 168 then (bif Nat.blt n 167 then (60, 1007, 1005, 1006) else (60, 1019, 1017, 1018)) else (bif Nat.blt n 169 then (60, 1027, 1026, 41) else (60, 1023, 1021, 1022))))) else (bif Nat.blt n 176 then (bif Nat.blt n 173 then (bif Nat.blt n 171 then (60, 1031, 1029, 1030) else (bif Nat.blt n 172 then (60, 1035, 1033, 1034) else (60, 1043, 1042, 42))) else (bif Nat.blt n 174 then (60, 1039, 1037, 1038) else (bif Nat.blt n 175 then (60, 1047, 1045, 1046) else (60, 1051, 1049, 1050)))) else (bif Nat.blt n 179 then (bif Nat.blt n 177 then (60, 1070, 1069, 45) else (bif Nat.blt n 178 then (60, 1062, 1061, 0) else (60, 1066, 1065, 44))) else (bif Nat.blt n 181 then (bif Nat.blt n 180 then (60, 1059, 1058, 43) else (60, 1055, 1053, 1054)) else (bif Nat.blt n 182 then (60, 1075, 1073, 1074) else (60, 1079, 1077, 1078)))))) else (bif Nat.blt n 196 then (bif Nat.blt n 189 then (bif Nat.blt n 186 then (bif Nat.blt n 184 then (60, 1087, 1086, 46) else (bif Nat.blt n 185 then (60, 1083, 1081, 1082) else (60, 1094, 1092, 1093))) else (bif Nat.blt n 187 then (60, 1101, 1100, 0) else (bif Nat.blt n 188 then (60, 1098, 1096, 1097) else (60, 1109, 1108, 47)))) else (bif Nat.blt n 192 then (bif Nat.blt n 190 then (60, 1105, 1103, 1104) else (bif Nat.blt n 191 then (60, 1113, 1111, 1112) else (60, 1117, 1115, 1116))) else (bif Nat.blt n 194 then (bif Nat.blt n 193 then (60, 1125, 1124, 48) else (60, 1121, 1119, 1120)) else (bif Nat.blt n 195 then (60, 1129, 1127, 1128) else (60, 1133, 1131, 1132))))) else (bif Nat.blt n 203 then (bif Nat.blt n 199 then (bif Nat.blt n 197 then (60, 1137, 1135, 1136) else (bif Nat.blt n 198 then (60, 1148, 1147, 49) else (60, 1152, 1151, 50))) else (bif Nat.blt n 201 then (bif Nat.blt n 200 then (60, 1141, 1139, 1140) else (60, 1156, 1154, 1155)) else (bif Nat.blt n 202 then (60, 1160, 1158, 1159) else (60, 1164, 1162, 1163)))) else (bif Nat.blt n 206 then (bif Nat.blt n 204 then (60, 1172, 1171, 51) else (bif Nat.blt n 205 then (60, 1168, 1166, 1167) else (60, 1176, 1174, 1175))) else (bif Nat.blt n 208 then (bif Nat.blt n 207 then (60, 1180, 1178, 1179) else (60, 1184, 1182, 1183)) else (bif Nat.blt n 209 then (62, 444, 443, 0) else (52, 0, 0, 0)))))))))
def mm_ki (n : Nat) : Nat × Nat := (bif Nat.blt n 3 then (bif Nat.blt n 1 then (153, 58) else (bif Nat.blt n 2 then (74, 54) else (115, 55))) else (bif Nat.blt n 5 then (bif Nat.blt n 4 then (123, 56) else (189, 59)) else (bif Nat.blt n 6 then (64, 53) else (739, 60))))
def mm_pc (μ ip : Nat) : Option Nat := (mm_at μ ip).map (fun q => q.1)
def mm_dc (μ pc : Nat) (i : Instr) (n : Nat) : Bool := decide (decode (mm_by μ) pc = .ok (i, n))
def mm_nx (μ nx pc : Nat) : Bool := decide (mm_pc μ nx = some pc)
def mm_tgt (μ a pc : Nat) (off : Int) : Bool := match mm_pc μ a with | some t => decide ((pc : Int) + off = (t : Int)) | none => false
def mm_vi (cv : Value) (x : Int32) : Bool := decide (cv = .int x)
def mm_vl (cv : Value) (x : Int64) : Bool := decide (cv = .long x)
def mm_cv (cv : Value) (f : Int32 → Bool) : Bool := match cv with | .int x => f x | _ => false
def mm_cvl (cv : Value) (f : Int64 → Bool) : Bool := match cv with | .long x => f x | _ => false
def mm_kl (ci : Nat) (f : String → u_T → Nat → Bool) : Bool := match mm_cls[ci]? with | some (C, T, N) => f C T N | none => false
def mm_fty (t : Option FieldType) (v : Option Value) : Bool := match t, v with
  | some .int, some (.int _) => true
  | some .long, some (.long _) => true
  | some (.object _), some .null => true
  | some (.array _), some .null => true
  | _, _ => false
def mm_sws (μ pc : Nat) : List (Int32 × Nat) → List Int → Int → Bool
  | [], [], _ => true
  | (v, t) :: l, off :: offs, x => decide (v.toInt = x) && (mm_tgt μ t pc off && mm_sws μ pc l offs (x + 1))
  | _, _, _ => false
/-- what a method needs of the tables -/
def mm_mth (a : Nat) : Bool := mm_wd (mm_mi a).1 (.initialized (mm_y a).cls) && (mm_wd (mm_mi a).2.1 (.code (mm_y a) (mm_by a) (mm_ml a) (mm_rt a)) && (Nat.ble (mm_ml a) 80 && (plainName (mm_y a).cls && (decide ((mm_y a).cls ≠ "java/lang/invoke/MethodHandle") && (decide ((mm_y a).cls ≠ "java/lang/invoke/VarHandle") && (decide ((mm_y a).cls = mm_ow a) && decide (mm_in a = true → (mm_y a).name = "<init>")))))))
/-- what a call needs of the tables -/
def mm_cal (μ k a n : Nat) : Bool := Nat.blt a 209 && ((mm_wd (mm_li μ k) (.methodLink (mm_ow μ) k (mm_y a)) || mm_nw (mm_li μ k) (.methodLinkNest (mm_ow μ) k (mm_y a) "BackCourt")) && decide ((parseMethodDescriptor (mm_y a).desc).map (fun d => d.parameters.length) = some n))
def mm_ok (μ : Nat) (q : mm_N) : Bool := match q with
  | (pc, i, nx, a, b, cv, _) => match i with
    | .iload_n k => mm_dc μ pc i 1 && (mm_nx μ nx (pc + 1) && decide ((k : Nat) = a))
    | .iload k => mm_dc μ pc i 2 && (mm_nx μ nx (pc + 2) && decide (k = a))
    | .lload_n k => mm_dc μ pc i 1 && (mm_nx μ nx (pc + 1) && decide ((k : Nat) = a))
    | .lload k => mm_dc μ pc i 2 && (mm_nx μ nx (pc + 2) && decide (k = a))
    | .aload_n k => mm_dc μ pc i 1 && (mm_nx μ nx (pc + 1) && decide ((k : Nat) = a))
    | .aload k => mm_dc μ pc i 2 && (mm_nx μ nx (pc + 2) && decide (k = a))
    | .istore_n k => mm_dc μ pc i 1 && (mm_nx μ nx (pc + 1) && decide ((k : Nat) = a))
    | .istore k => mm_dc μ pc i 2 && (mm_nx μ nx (pc + 2) && decide (k = a))
    | .lstore_n k => mm_dc μ pc i 1 && (mm_nx μ nx (pc + 1) && decide ((k : Nat) = a))
    | .lstore k => mm_dc μ pc i 2 && (mm_nx μ nx (pc + 2) && decide (k = a))
    | .astore_n k => mm_dc μ pc i 1 && (mm_nx μ nx (pc + 1) && decide ((k : Nat) = a))
    | .astore k => mm_dc μ pc i 2 && (mm_nx μ nx (pc + 2) && decide (k = a))
    | .iinc k n => mm_dc μ pc i 3 && (mm_nx μ nx (pc + 3) && (decide (k = a) && mm_vi cv (Int32.ofInt n)))
    | .iconst n => mm_dc μ pc i 1 && (mm_nx μ nx (pc + 1) && mm_vi cv (Int32.ofInt n))
    | .bipush n => mm_dc μ pc i 2 && (mm_nx μ nx (pc + 2) && mm_vi cv (Int8.ofInt n).toInt32)
    | .sipush n => mm_dc μ pc i 3 && (mm_nx μ nx (pc + 3) && mm_vi cv (Int16.ofInt n).toInt32)
    | .ldc k => mm_dc μ pc i 2 && (mm_nx μ nx (pc + 2) && mm_cv cv (fun x => mm_wd (mm_li μ k) (.constant (mm_ow μ) k x)))
    | .ldc_w k => mm_dc μ pc i 3 && (mm_nx μ nx (pc + 3) && mm_cv cv (fun x => mm_wd (mm_li μ k) (.constant (mm_ow μ) k x)))
    | .lconst n => mm_dc μ pc i 1 && (mm_nx μ nx (pc + 1) && mm_vl cv (Int64.ofNat (n : Nat)))
    | .ldc2_w k => mm_dc μ pc i 3 && (mm_nx μ nx (pc + 3) && mm_cvl cv (fun x => mm_wd (mm_li μ k) (.constantLong (mm_ow μ) k x)))
    | .getstatic k => mm_dc μ pc i 3 && (mm_nx μ nx (pc + 3) && mm_nw (mm_li μ k) (.fieldLinkNest (mm_ow μ) k RX5 "LETTERS" "[I" "BackCourt"))
    | .iadd => mm_dc μ pc i 1 && mm_nx μ nx (pc + 1)
    | .isub => mm_dc μ pc i 1 && mm_nx μ nx (pc + 1)
    | .imul => mm_dc μ pc i 1 && mm_nx μ nx (pc + 1)
    | .iand => mm_dc μ pc i 1 && mm_nx μ nx (pc + 1)
    | .ior => mm_dc μ pc i 1 && mm_nx μ nx (pc + 1)
    | .ixor => mm_dc μ pc i 1 && mm_nx μ nx (pc + 1)
    | .ishl => mm_dc μ pc i 1 && mm_nx μ nx (pc + 1)
    | .ishr => mm_dc μ pc i 1 && mm_nx μ nx (pc + 1)
    | .iushr => mm_dc μ pc i 1 && mm_nx μ nx (pc + 1)
    | .idiv => mm_dc μ pc i 1 && mm_nx μ nx (pc + 1)
    | .irem => mm_dc μ pc i 1 && mm_nx μ nx (pc + 1)
    | .ladd => mm_dc μ pc i 1 && mm_nx μ nx (pc + 1)
    | .lmul => mm_dc μ pc i 1 && mm_nx μ nx (pc + 1)
    | .ldiv => mm_dc μ pc i 1 && mm_nx μ nx (pc + 1)
    | .lrem => mm_dc μ pc i 1 && mm_nx μ nx (pc + 1)
    | .lcmp => mm_dc μ pc i 1 && mm_nx μ nx (pc + 1)
    | .ineg => mm_dc μ pc i 1 && mm_nx μ nx (pc + 1)
    | .i2l => mm_dc μ pc i 1 && mm_nx μ nx (pc + 1)
    | .i2b => mm_dc μ pc i 1 && mm_nx μ nx (pc + 1)
    | .l2i => mm_dc μ pc i 1 && mm_nx μ nx (pc + 1)
    | .dup => mm_dc μ pc i 1 && mm_nx μ nx (pc + 1)
    | .pop => mm_dc μ pc i 1 && mm_nx μ nx (pc + 1)
    | .dup2 => mm_dc μ pc i 1 && mm_nx μ nx (pc + 1)
    | .iaload => mm_dc μ pc i 1 && mm_nx μ nx (pc + 1)
    | .iastore => mm_dc μ pc i 1 && mm_nx μ nx (pc + 1)
    | .aaload => mm_dc μ pc i 1 && mm_nx μ nx (pc + 1)
    | .aastore => mm_dc μ pc i 1 && mm_nx μ nx (pc + 1)
    | .arraylength => mm_dc μ pc i 1 && mm_nx μ nx (pc + 1)
    | .ifCond _ off => mm_dc μ pc i 3 && (mm_nx μ nx (pc + 3) && mm_tgt μ a pc off)
    | .if_icmp _ off => mm_dc μ pc i 3 && (mm_nx μ nx (pc + 3) && mm_tgt μ a pc off)
    | .goto off => mm_dc μ pc i 3 && mm_tgt μ a pc off
    | .tableswitch df lo hi offs => (match decode (mm_by μ) pc with | .ok (j, _) => decide (j = i) | _ => false) && (mm_tgt μ b pc df && (mm_sws μ pc (mm_tg μ) offs.toList lo && decide (hi + 1 = lo + (offs.size : Int))))
    | .newarray t => mm_dc μ pc i 2 && (mm_nx μ nx (pc + 2) && (decide (t = .int) && mm_wd 112 (.arrayClass .int)))
    | .anewarray k => mm_dc μ pc i 3 && (mm_nx μ nx (pc + 3) && ((Nat.beq a 1 && mm_wd (mm_li μ k) (.classLink (mm_ow μ) k RX1)) || (Nat.beq a 3 && mm_wd (mm_li μ k) (.classLink (mm_ow μ) k RX3))))
    | .new k => mm_dc μ pc i 3 && (mm_nx μ nx (pc + 3) && mm_kl a (fun C _ N => mm_wd (mm_li μ k) (.classLink (mm_ow μ) k C) && (mm_wd (mm_ki a).1 (.instantiable C N) && (mm_wd (mm_ki a).2 (.initialized C) && decide ((mm_def a).length = N)))))
    | .getfield k => mm_dc μ pc i 3 && (mm_nx μ nx (pc + 3) && mm_kl a (fun _ T N => Nat.blt b N && mm_wd (mm_li μ k) (.fieldLink (mm_ow μ) k (T b).1 (T b).2.1 (T b).2.2.1)))
    | .putfield k => mm_dc μ pc i 3 && (mm_nx μ nx (pc + 3) && mm_kl a (fun _ T N => Nat.blt b N && (mm_wd (mm_li μ k) (.fieldLink (mm_ow μ) k (T b).1 (T b).2.1 (T b).2.2.1) && (mm_fty (parseFieldDescriptor (T b).2.2.1) (mm_def a)[b]? && (!(T b).2.2.2 || (mm_in μ && decide ((T b).1 = mm_ow μ)))))))
    | .invokestatic k => mm_dc μ pc i 3 && (mm_nx μ nx (pc + 3) && (bif Nat.beq a 1001 then mm_wd (mm_li μ k) (.methodLink (mm_ow μ) k arraycopyName) && (mm_wd 328 (.native arraycopyName) && (mm_wd 327 (.static arraycopyName) && mm_wd 61 (.initialized "java/lang/System"))) else bif Nat.beq a 1002 then mm_wd (mm_li μ k) (.methodLink (mm_ow μ) k Lib.Math.max.name) && (mm_wd 129 (.static Lib.Math.max.name) && (mm_wd 57 (.initialized "java/lang/Math") && mm_wd 130 (.code Lib.Math.max.name Lib.Math.max.code 2 (some .int)))) else bif Nat.beq a 1003 then mm_wd (mm_li μ k) (.methodLink (mm_ow μ) k Lib.Math.min.name) && (mm_wd 273 (.static Lib.Math.min.name) && (mm_wd 57 (.initialized "java/lang/Math") && mm_wd 274 (.code Lib.Math.min.name Lib.Math.min.code 2 (some .int)))) else mm_cal μ k a b && mm_wd (mm_mi a).2.2.1 (.static (mm_y a))))
    | .invokevirtual k => mm_dc μ pc i 3 && (mm_nx μ nx (pc + 3) && (decide (1 ≤ b) && (mm_cal μ k a (b - 1) && (mm_wd (mm_mi a).2.2.1 (.instanceMethod (mm_y a)) && (mm_wd (mm_mi a).2.2.2 (.selects (mm_y a).cls (mm_y a) (mm_y a)) && mm_kl (mm_rc a) (fun C _ _ => decide (C = (mm_y a).cls)))))))
    | .invokespecial k => mm_dc μ pc i 3 && (mm_nx μ nx (pc + 3) && (bif Nat.beq a 1000 then mm_wd (mm_li μ k) (.methodLink (mm_ow μ) k objectInit) && (mm_wd 69 (.instanceMethod objectInit) && mm_wd 70 (.code objectInit ⟨#[0xb1]⟩ 1 none)) else decide (1 ≤ b) && (mm_cal μ k a (b - 1) && (mm_wd (mm_mi a).2.2.1 (.instanceMethod (mm_y a)) && (decide ((mm_y a).name = "<init>") && decide (mm_rt a = none))))))
    | .ireturn => mm_dc μ pc i 1 && (decide (mm_rt μ = some .int) || decide (mm_rt μ = some .boolean))
    | .lreturn => mm_dc μ pc i 1 && decide (mm_rt μ = some .long)
    | .return_ => mm_dc μ pc i 1 && decide (mm_rt μ = none)
    | _ => false
end
section
/-! the mini machine's heap as a world of the real one -/
abbrev mm_G : Type := va_G × (ClassId × ClassId × ClassId) × (Nat × Nat × Nat × Nat) × (Nat → Int32)
def gvD (g : mm_G) : va_G := g.1
def gvI (g : mm_G) : ClassId := g.2.1.1
def gvC (g : mm_G) : ClassId := g.2.1.2.1
def gvR (g : mm_G) : ClassId := g.2.1.2.2
def gvb (g : mm_G) : Nat := g.2.2.1.1
def gvt (g : mm_G) : Nat := g.2.2.1.2.1
def gvL (g : mm_G) : Nat := g.2.2.1.2.2.1
def gvz (g : mm_G) : Nat := g.2.2.1.2.2.2
def gvx (g : mm_G) : Nat → Int32 := g.2.2.2
def mm_ad (g : mm_G) : Nat → Nat
  | 0 => gvb g
  | 1 => gvt g
  | k + 2 => gvz g + k
def mm_tr (g : mm_G) : Value → Value
  | .ref k => .ref (mm_ad g k)
  | v => v
def mm_let : Nat → Int32
  | 0 => 114
  | 1 => 98
  | 2 => 102
  | 3 => 117
  | 4 => 99
  | _ => 107
def mm_q (g : mm_G) (f : Nat → Option Nat) : (Nat → Int32) ⊕ (Nat → Int64) ⊕ (Nat → UInt32) ⊕ (Nat → UInt64) ⊕ (Nat → Option Nat) := .inr (.inr (.inr (.inr (fun j => (f j).map (mm_ad g)))))
def mm_ca (g : mm_G) (ci : Nat) : ClassId := bif Nat.beq ci 1 then gvC g else gvR g
def mm_en (g : mm_G) : mm_C → va_E
  | .inl (ci, fs) => .inr (ci, fs.map (mm_tr g))
  | .inr (.inl (n, f)) => .inl (gvI g, n, .inl f)
  | .inr (.inr (.inl (ci, n, f))) => bif (Nat.beq ci 1 || Nat.beq ci 3) then .inl (mm_ca g ci, n, mm_q g f) else .inr (99, [])
  | .inr (.inr (.inr _)) => .inr (99, [])
def mm_ws (g : mm_G) (h : mm_H) : va_W := (List.range (h.1 - 2)).map (fun k => (gvz g + k, mm_en g (h.2 (k + 2))))
def mm_A (g : mm_G) : Nat → Prop := fun q => gvz g ≤ q
def mm_R (g : mm_G) (H : Heap) (h : mm_H) : Prop := (h.1 < mm_full → H.size = gvz g + (h.1 - 2)) ∧ 2 ≤ h.1 ∧ h.2 0 = mE (gvL g) (gvx g) ∧ h.2 1 = mE 6 mm_let ∧ (∀ k, h.1 ≤ k → h.2 k = mO 99 []) ∧ va_P (gvD g) mm_cls (mm_ws g h) H
def mm_tys (g : mm_G) : List (ClassId × FieldType) := [(gvI g, .int), (gvC g, .object RX1), (gvR g, .object RX3)]
theorem mm_ws_get (g : mm_G) (h : mm_H) {k : Nat} (h2 : 2 ≤ k) (hk : k < h.1) : (mm_ws g h)[k - 2]? = some (mm_ad g k, mm_en g (h.2 k)) := by
  obtain ⟨j, rfl⟩ : ∃ j, k = j + 2 := ⟨k - 2, by omega⟩
  have e : j + 2 - 2 = j := by omega
  rw [e]
  unfold mm_ws
  rw [List.getElem?_map, List.getElem?_range (by omega)]
  rfl
theorem mm_ws_len (g : mm_G) (h : mm_H) : (mm_ws g h).length = h.1 - 2 := by simp [mm_ws]
theorem mm_ws_at (g : mm_G) (h : mm_H) (k : Nat) : (mm_ws g h)[k]? = if k < h.1 - 2 then some (gvz g + k, mm_en g (h.2 (k + 2))) else none := by
  unfold mm_ws
  rw [List.getElem?_map]
  by_cases hk : k < h.1 - 2
  · rw [List.getElem?_range hk, if_pos hk]
    rfl
  · rw [if_neg hk, List.getElem?_eq_none (by simpa using hk)]
    rfl
theorem mm_ws_D (g : mm_G) (h : mm_H) : va_D (mm_A g) (mm_ws g h) := by
  refine ⟨fun i j p q hi hj e => ?_, fun k q hk => ?_⟩
  · rw [mm_ws_at] at hi hj
    split at hi
    · split at hj
      · cases hi
        cases hj
        simp at e
        omega
      · cases hj
    · cases hi
  · rw [mm_ws_at] at hk
    split at hk
    · cases hk
      show gvz g ≤ gvz g + k
      omega
    · cases hk
theorem mm_ws_set (g : mm_G) (h : mm_H) {o : Nat} (c : mm_C) (h2 : 2 ≤ o) (ho : o < h.1) : (mm_ws g h).set (o - 2) (mm_ad g o, mm_en g c) = mm_ws g (h.1, mU h.2 o c) := by
  apply List.ext_getElem?
  intro k
  rw [mm_ws_at]
  obtain ⟨j, rfl⟩ : ∃ j, o = j + 2 := ⟨o - 2, by omega⟩
  have e : j + 2 - 2 = j := by omega
  rw [e]
  by_cases hkj : k = j
  · subst hkj
    rw [List.getElem?_set_self (by rw [mm_ws_len]; omega), if_pos (by show k < h.1 - 2; omega)]
    simp [mU, mm_ad]
  · rw [List.getElem?_set_ne (Ne.symm hkj), mm_ws_at]
    by_cases hk : k < h.1 - 2
    · rw [if_pos hk, if_pos hk]
      simp [mU, hkj]
    · rw [if_neg hk, if_neg hk]
theorem mm_ws_push (g : mm_G) (h : mm_H) (c : mm_C) (h2 : 2 ≤ h.1) : mm_ws g h ++ [(mm_ad g h.1, mm_en g c)] = mm_ws g (h.1 + 1, mU h.2 h.1 c) := by
  apply List.ext_getElem?
  intro k
  rw [mm_ws_at]
  obtain ⟨n, hn⟩ : ∃ n, h.1 = n + 2 := ⟨h.1 - 2, by omega⟩
  show _ = if k < h.1 + 1 - 2 then _ else _
  by_cases hk : k < n
  · rw [List.getElem?_append_left (by rw [mm_ws_len]; omega), mm_ws_at, if_pos (by omega), if_pos (by omega)]
    have : ¬ k + 2 = h.1 := by omega
    simp [mU, this]
  · by_cases hk2 : k = n
    · subst hk2
      rw [List.getElem?_append_right (by rw [mm_ws_len]; omega), mm_ws_len, if_pos (by omega)]
      have e1 : k - (h.1 - 2) = 0 := by omega
      rw [e1, hn]
      simp [mU, mm_ad]
    · rw [List.getElem?_eq_none (by simp [mm_ws_len]; omega), if_neg (by omega)]
/-- an object, an array of the mini heap has its place in the world -/
theorem mm_R.obj {g : mm_G} {H : Heap} {h : mm_H} (hR : mm_R g H h) {o ci : Nat} {fs : List Value} (e : h.2 o = mO ci fs) (hc : ci ≠ 99) : 2 ≤ o ∧ o < h.1 ∧ (mm_ws g h)[o - 2]? = some (mm_ad g o, .inr (ci, fs.map (mm_tr g))) := by
  obtain ⟨-, h2, e0, e1, hd, -⟩ := hR
  have ho : o < h.1 := Nat.lt_of_not_le fun q => by
    have z := (hd o q).symm.trans e
    simp [mO] at z
    exact hc z.1.symm
  have h3 : 2 ≤ o := by
    rcases o with _ | _ | o
    · rw [e0] at e; cases e
    · rw [e1] at e; cases e
    · omega
  refine ⟨h3, ho, ?_⟩
  rw [mm_ws_get g h h3 ho, e]
  rfl
theorem mm_R.ints {g : mm_G} {H : Heap} {h : mm_H} (hR : mm_R g H h) {o n : Nat} {f : Nat → Int32} (e : h.2 o = mI n f) : 2 ≤ o ∧ o < h.1 ∧ (mm_ws g h)[o - 2]? = some (mm_ad g o, .inl (gvI g, n, .inl f)) := by
  obtain ⟨-, h2, e0, e1, hd, -⟩ := hR
  have ho : o < h.1 := Nat.lt_of_not_le fun q => by
    have z := (hd o q).symm.trans e
    cases z
  have h3 : 2 ≤ o := by
    rcases o with _ | _ | o
    · rw [e0] at e; cases e
    · rw [e1] at e; cases e
    · omega
  refine ⟨h3, ho, ?_⟩
  rw [mm_ws_get g h h3 ho, e]
  rfl
theorem mm_R.refs {g : mm_G} {H : Heap} {h : mm_H} (hR : mm_R g H h) {o ci n : Nat} {f : Nat → Option Nat} (e : h.2 o = mR ci n f) : 2 ≤ o ∧ o < h.1 ∧ (ci = 1 ∨ ci = 3) ∧ (mm_ws g h)[o - 2]? = some (mm_ad g o, .inl (mm_ca g ci, n, mm_q g f)) := by
  obtain ⟨-, h2, e0, e1, hd, hP⟩ := hR
  have ho : o < h.1 := Nat.lt_of_not_le fun q => by
    have z := (hd o q).symm.trans e
    cases z
  have h3 : 2 ≤ o := by
    rcases o with _ | _ | o
    · rw [e0] at e; cases e
    · rw [e1] at e; cases e
    · omega
  have hw := mm_ws_get g h h3 ho
  rw [e] at hw
  by_cases hc : ci = 1 ∨ ci = 3
  · refine ⟨h3, ho, hc, ?_⟩
    rcases hc with rfl | rfl <;> exact hw
  · exfalso
    have hq := hP _ _ hw
    have en : mm_en g (mR ci n f) = .inr (99, []) := by
      have b1 : (Nat.beq ci 1 || Nat.beq ci 3) = false := by
        rw [Bool.or_eq_false_iff]
        constructor
        · cases z : Nat.beq ci 1 with
          | false => rfl
          | true => exact absurd (Or.inl (Nat.eq_of_beq_eq_true z)) hc
        · cases z : Nat.beq ci 3 with
          | false => rfl
          | true => exact absurd (Or.inr (Nat.eq_of_beq_eq_true z)) hc
      show (bif (Nat.beq ci 1 || Nat.beq ci 3) then _ else _) = _
      rw [b1]
      rfl
    rw [en] at hq
    obtain ⟨r, hr, -⟩ := hq
    cases hr
theorem mm_R.ext {g : mm_G} {H : Heap} {h : mm_H} (hR : mm_R g H h) {o n : Nat} {f : Nat → Int32} (e : h.2 o = mE n f) : (o = 0 ∧ n = gvL g ∧ f = gvx g) ∨ (o = 1 ∧ n = 6 ∧ f = mm_let) := by
  obtain ⟨-, h2, e0, e1, hd, hP⟩ := hR
  rcases o with _ | _ | o
  · have z := e.symm.trans e0
    simp [mE] at z
    exact Or.inl ⟨rfl, z.1, z.2⟩
  · have z := e.symm.trans e1
    simp [mE] at z
    exact Or.inr ⟨rfl, z.1, z.2⟩
  · exfalso
    by_cases ho : o + 2 < h.1
    · have hw := mm_ws_get g h (by omega) ho
      rw [e] at hw
      obtain ⟨r, hr, -⟩ := hP _ _ hw
      cases hr
    · have z := (hd (o + 2) (by omega)).symm.trans e
      cases z
/-- a cell of the world is another one -/
theorem mm_R.put {g : mm_G} {H H1 : Heap} {h : mm_H} (hR : mm_R g H h) {o : Nat} {c : mm_C} (h2 : 2 ≤ o) (ho : o < h.1) (hz : h.1 < mm_full → H1.size = H.size) (hP : va_P (gvD g) mm_cls ((mm_ws g h).set (o - 2) (mm_ad g o, mm_en g c)) H1) : mm_R g H1 (h.1, mU h.2 o c) := by
  obtain ⟨hs, h2', e0, e1, hd, -⟩ := hR
  refine ⟨fun q => by rw [hz q]; exact hs q, h2', ?_, ?_, fun k hk => ?_, ?_⟩
  · show (if 0 = o then c else h.2 0) = _
    rw [if_neg (by omega)]; exact e0
  · show (if 1 = o then c else h.2 1) = _
    rw [if_neg (by omega)]; exact e1
  · show (if k = o then c else h.2 k) = _
    have hk' : h.1 ≤ k := hk
    rw [if_neg (by omega)]
    exact hd k hk'
  · rw [← mm_ws_set g h c h2 ho]
    exact hP
theorem mm_R.push {g : mm_G} {H H1 : Heap} {h : mm_H} (hR : mm_R g H h) {c : mm_C} (hf : h.1 < mm_full) (hz : H1.size = H.size + 1) (hk : ∀ q, q < H.size → H1[q]? = H[q]?) (hc : va_at (gvD g) mm_cls (mm_ad g h.1, mm_en g c) H1) : mm_R g H1 (h.1 + 1, mU h.2 h.1 c) := by
  obtain ⟨hs, h2, e0, e1, hd, hP⟩ := hR
  have hs := hs hf
  refine ⟨fun q => by rw [hz, hs]; show _ = gvz g + (h.1 + 1 - 2); omega, by show 2 ≤ h.1 + 1; omega, ?_, ?_, fun k hk => ?_, ?_⟩
  · show (if 0 = h.1 then c else h.2 0) = _
    rw [if_neg (by omega)]; exact e0
  · show (if 1 = h.1 then c else h.2 1) = _
    rw [if_neg (by omega)]; exact e1
  · show (if k = h.1 then c else h.2 k) = _
    have hk' : h.1 + 1 ≤ k := hk
    rw [if_neg (by omega)]
    exact hd k (by omega)
  · rw [← mm_ws_push g h c h2]
    refine va_P.app (hP.kept fun k q hq => hk q.1 (hP k q hq).lt) ?_
    intro k q hq
    have hk0 : k < 1 := (List.getElem?_eq_some_iff.mp hq).1
    have e : k = 0 := by omega
    subst e
    cases hq
    exact hc
theorem mm_ad_top {g : mm_G} {H : Heap} {h : mm_H} (hR : mm_R g H h) (hf : h.1 < mm_full) : mm_ad g h.1 = H.size := by
  obtain ⟨hs, h2, -⟩ := hR
  have hs := hs hf
  obtain ⟨n, hn⟩ : ∃ n, h.1 = n + 2 := ⟨h.1 - 2, by omega⟩
  rw [hs, hn]
  rfl
/-- locals: what the list has, the slots have -/
def mm_L (g : mm_G) (sl : Array Slot) (n : Nat) (ls : List Value) : Prop := sl.size = n ∧ ls.length = n ∧ lv_wf sl ∧ ∀ (i : Nat) (v : Value), ls[i]? = some v → mm_kd v = true → sl[i]? = some (Slot.val (mm_tr g v))
def mm_pl1 (g : mm_G) (ls : List Value) (i : Nat) : Option (Nat × Value) := match ls[i]? with | some v => (match mm_kd v with | true => some (i, mm_tr g v) | false => none) | none => none
def mm_pl (g : mm_G) (ls : List Value) : List (Nat × Value) := (List.range ls.length).filterMap (mm_pl1 g ls)
theorem mm_pl_in {g : mm_G} {ls : List Value} {i : Nat} {v : Value} (h : ls[i]? = some v) (hv : mm_kd v = true) : (i, mm_tr g v) ∈ mm_pl g ls := by
  refine List.mem_filterMap.mpr ⟨i, List.mem_range.mpr (List.getElem?_eq_some_iff.mp h).1, ?_⟩
  unfold mm_pl1
  rw [h]
  show (match mm_kd v with | true => some (i, mm_tr g v) | false => none) = _
  rw [hv]
theorem mm_L.has {g : mm_G} {sl : Array Slot} {n : Nat} {ls : List Value} (h : mm_L g sl n ls) : lv_has sl n (mm_pl g ls) := by
  refine ⟨h.1, h.2.2.1, fun q hq => ?_⟩
  obtain ⟨i, -, hi⟩ := List.mem_filterMap.mp hq
  unfold mm_pl1 at hi
  split at hi
  · rename_i v e
    split at hi
    · rename_i e2
      cases hi
      exact h.2.2.2 i _ e e2
    · cases hi
  · cases hi
theorem mm_tr_cat (g : mm_G) (v : Value) : (mm_tr g v).category = v.category := by cases v <;> rfl
theorem mm_cat_long {v : Value} (hv : mm_kd v = true) (h : ∀ x, v ≠ .long x) : v.category = 1 := by
  cases v <;> first | rfl | exact absurd rfl (h _) | cases hv
theorem mm_L.st {g : mm_G} {sl sl' : Array Slot} {n : Nat} {ls : List Value} (h : mm_L g sl n ls) {i : Nat} {v : Value} (hi : i < ls.length) (hn : ∀ j x, j + 1 = i → ls[j]? ≠ some (.long x)) (h' : lv_has sl' n ((i, mm_tr g v) :: (mm_pl g ls).filter (fun q => !(q.1 == i) && !(q.1 + 1 == i && q.2.category == 2)))) : mm_L g sl' n (ls.set i v) := by
  refine ⟨h'.1, by rw [List.length_set]; exact h.2.1, h'.2.1, fun j w hj hw => ?_⟩
  by_cases hji : j = i
  · subst hji
    rw [List.getElem?_set_self hi] at hj
    cases hj
    exact h'.2.2 (j, mm_tr g v) List.mem_cons_self
  · rw [List.getElem?_set_ne (Ne.symm hji)] at hj
    refine h'.2.2 (j, mm_tr g w) (List.mem_cons_of_mem _ (List.mem_filter.mpr ⟨mm_pl_in hj hw, ?_⟩))
    by_cases h1 : j + 1 = i
    · have hc : (mm_tr g w).category = 1 := by
        rw [mm_tr_cat]
        exact mm_cat_long hw (fun x e => hn j x h1 (by rw [hj, e]))
      simp [hji, hc]
    · simp [hji, h1]
theorem mm_L.st2 {g : mm_G} {sl sl' : Array Slot} {n : Nat} {ls : List Value} (h : mm_L g sl n ls) {i : Nat} {v : Value} (hi : i + 1 < ls.length) (hn : ∀ j x, j + 1 = i → ls[j]? ≠ some (.long x)) (h' : lv_has sl' n ((i, mm_tr g v) :: (mm_pl g ls).filter (fun q => !(q.1 == i) && (!(q.1 == i + 1) && !(q.1 + 1 == i && q.2.category == 2))))) : mm_L g sl' n ((ls.set i v).set (i + 1) .null) := by
  refine ⟨h'.1, by rw [List.length_set, List.length_set]; exact h.2.1, h'.2.1, fun j w hj hw => ?_⟩
  by_cases hj1 : j = i + 1
  · subst hj1
    rw [List.getElem?_set_self (by rw [List.length_set]; exact hi)] at hj
    cases hj
    cases hw
  · rw [List.getElem?_set_ne (Ne.symm hj1)] at hj
    by_cases hji : j = i
    · subst hji
      rw [List.getElem?_set_self (by omega)] at hj
      cases hj
      exact h'.2.2 (j, mm_tr g v) List.mem_cons_self
    · rw [List.getElem?_set_ne (Ne.symm hji)] at hj
      refine h'.2.2 (j, mm_tr g w) (List.mem_cons_of_mem _ (List.mem_filter.mpr ⟨mm_pl_in hj hw, ?_⟩))
      by_cases h1 : j + 1 = i
      · have hc : (mm_tr g w).category = 1 := by
          rw [mm_tr_cat]
          exact mm_cat_long hw (fun x e => hn j x h1 (by rw [hj, e]))
        simp [hji, hj1, hc]
      · simp [hji, hj1, h1]
/-- a method's first locals -/
theorem mm_ex_len (g : mm_G) : ∀ (args : List Value), mm_akd args = true → (lg_sl (args.map (mm_tr g))).length = (mm_ex args).length
  | [], _ => rfl
  | v :: l, h => by
    have ih := mm_ex_len g l
    cases v <;> simp [mm_akd, mm_kd] at h <;> simp [mm_ex, lg_sl, mm_tr, Value.category] at ih ⊢ <;> exact ih h
theorem mm_ex_in (g : mm_G) : ∀ (args : List Value) (off i : Nat) (v : Value), mm_akd args = true → (mm_ex args)[i]? = some v → mm_kd v = true → (off + i, mm_tr g v) ∈ lv_args off (args.map (mm_tr g))
  | [], off, i, v, _, h, _ => by simp [mm_ex] at h
  | .int x :: l, off, i, v, ha, h, hv => by
    have ih := mm_ex_in g l (off + 1)
    simp [mm_akd, mm_kd] at ha
    cases i with
    | zero =>
      simp [mm_ex] at h
      subst h
      exact List.mem_cons_self
    | succ i =>
      have := ih i v ha (by simpa [mm_ex] using h) hv
      refine List.mem_cons_of_mem _ ?_
      show _ ∈ lv_args (off + 1) _
      have e : off + (i + 1) = off + 1 + i := by omega
      rw [e]
      exact this
  | .ref x :: l, off, i, v, ha, h, hv => by
    have ih := mm_ex_in g l (off + 1)
    simp [mm_akd, mm_kd] at ha
    cases i with
    | zero =>
      simp [mm_ex] at h
      subst h
      exact List.mem_cons_self
    | succ i =>
      have := ih i v ha (by simpa [mm_ex] using h) hv
      refine List.mem_cons_of_mem _ ?_
      show _ ∈ lv_args (off + 1) _
      have e : off + (i + 1) = off + 1 + i := by omega
      rw [e]
      exact this
  | .long x :: l, off, i, v, ha, h, hv => by
    have ih := mm_ex_in g l (off + 2)
    simp [mm_akd, mm_kd] at ha
    rcases i with _ | _ | i
    · simp [mm_ex] at h
      subst h
      exact List.mem_cons_self
    · simp [mm_ex] at h
      subst h
      cases hv
    · have := ih i v ha (by simpa [mm_ex] using h) hv
      refine List.mem_cons_of_mem _ ?_
      show _ ∈ lv_args (off + 2) _
      have e : off + (i + 1 + 1) = off + 2 + i := by omega
      rw [e]
      exact this
  | .float _ :: _, _, _, _, ha, _, _ => by simp [mm_akd, mm_kd] at ha
  | .double _ :: _, _, _, _, ha, _, _ => by simp [mm_akd, mm_kd] at ha
  | .null :: _, _, _, _, ha, _, _ => by simp [mm_akd, mm_kd] at ha
  | .retAddr _ :: _, _, _, _, ha, _, _ => by simp [mm_akd, mm_kd] at ha
theorem mm_L.entry (g : mm_G) {args : List Value} {n : Nat} (ha : mm_akd args = true) (hn : (mm_ex args).length ≤ n) : mm_L g ((lg_sl (args.map (mm_tr g)) ++ List.replicate (n - (lg_sl (args.map (mm_tr g))).length) Slot.unset).toArray) n (mm_ent n args) := by
  have hl := mm_ex_len g args ha
  have h := lv_entry (args.map (mm_tr g)) (n := n) (by rw [hl]; exact hn)
  refine ⟨h.1, ?_, h.2.1, fun i v hi hv => ?_⟩
  · simp [mm_ent]
    omega
  · refine h.2.2 (i, mm_tr g v) ?_
    unfold mm_ent at hi
    by_cases hlt : i < (mm_ex args).length
    · rw [List.getElem?_append_left hlt] at hi
      have := mm_ex_in g args 0 i v ha hi hv
      rwa [Nat.zero_add] at this
    · rw [List.getElem?_append_right (by omega)] at hi
      have e := List.mem_of_getElem? hi
      rw [List.mem_replicate] at e
      rw [e.2] at hv
      cases hv
end
section
def mm_uw : List Cond → List Nat → Bool
  | [], _ => true
  | x :: ws, p :: ps => mm_wd p x && mm_uw ws ps
  | _ :: _, [] => false
theorem mm_uw_in : ∀ {ws : List Cond} {ps : List Nat}, mm_uw ws ps = true → ∀ x ∈ ws, x ∈ mm_gt
  | [], _, _, x, hx => by cases hx
  | y :: ws, [], h, x, hx => by cases h
  | y :: ws, p :: ps, h, x, hx => by
    unfold mm_uw at h
    rw [Bool.and_eq_true] at h
    rcases List.mem_cons.mp hx with e | e
    · rw [e]
      exact mm_wd_in h.1
    · exact mm_uw_in h.2 x e
theorem mm_uw0 : mm_uw (u_ws RX0 TX0 8) [171, 173, 175, 177, 179, 181, 183, 185] = true := by decide +kernel
theorem mm_df0 : ∀ j, j < 8 → defaultValue (tyX0 j) = vp_V (mm_def 0) j := by decide +kernel
theorem mm_uw1 : mm_uw (u_ws RX1 TX1 7) [97, 99, 101, 103, 105, 107, 109] = true := by decide +kernel
theorem mm_df1 : ∀ j, j < 7 → defaultValue (tyX1 j) = vp_V (mm_def 1) j := by decide +kernel
theorem mm_uw2 : mm_uw (u_ws RX2 TX2 3) [145, 147, 149] = true := by decide +kernel
theorem mm_df2 : ∀ j, j < 3 → defaultValue (tyX2 j) = vp_V (mm_def 2) j := by decide +kernel
theorem mm_uw3 : mm_uw (u_ws RX3 TX3 2) [136, 138] = true := by decide +kernel
theorem mm_df3 : ∀ j, j < 2 → defaultValue (tyX3 j) = vp_V (mm_def 3) j := by decide +kernel
theorem mm_uw4 : mm_uw (u_ws RX4 TX4 5) [201, 203, 205, 207, 209] = true := by decide +kernel
theorem mm_df4 : ∀ j, j < 5 → defaultValue (tyX4 j) = vp_V (mm_def 4) j := by decide +kernel
theorem mm_uw5 : mm_uw (u_ws RX5 TX5 13) [226, 228, 230, 232, 234, 236, 238, 240, 242, 244, 246, 248, 250] = true := by decide +kernel
theorem mm_df5 : ∀ j, j < 13 → defaultValue (tyX5 j) = vp_V (mm_def 5) j := by decide +kernel
theorem mm_uw6 : mm_uw (u_ws RX6 TX6 27) [771, 773, 775, 777, 779, 781, 783, 785, 787, 789, 791, 793, 795, 797, 799, 801, 803, 805, 807, 809, 811, 813, 815, 817, 819, 821, 823] = true := by decide +kernel
theorem mm_df6 : ∀ j, j < 27 → defaultValue (tyX6 j) = vp_V (mm_def 6) j := by decide +kernel
/-- what is known of a kind: its layout words, its types, its names, its defaults -/
def mm_kn (a : Nat) (C : String) (T : u_T) (N : Nat) : Prop := (∀ x ∈ u_ws C T N, x ∈ mm_gt) ∧ (∀ i, i < N → ∀ j, j < N → i ≠ j → (T i).2.1 ≠ (T j).2.1) ∧ ∃ ty : Nat → FieldType, (∀ k, k < N → parseFieldDescriptor (T k).2.2.1 = some (ty k)) ∧ ∀ j, j < N → defaultValue (ty j) = vp_V (mm_def a) j
theorem mm_kn_of {a : Nat} {C : String} {T : u_T} {N : Nat} (h : mm_cls[a]? = some (C, T, N)) : a < 7 ∧ mm_kn a C T N := by
  have ha : a < 7 := (List.getElem?_eq_some_iff.mp h).1
  refine ⟨ha, ?_⟩
  rcases a with _ | _ | _ | _ | _ | _ | _ | a
  · cases h
    exact ⟨mm_uw_in mm_uw0, nmX0, tyX0, tyX0_ok, mm_df0⟩
  · cases h
    exact ⟨mm_uw_in mm_uw1, nmX1, tyX1, tyX1_ok, mm_df1⟩
  · cases h
    exact ⟨mm_uw_in mm_uw2, nmX2, tyX2, tyX2_ok, mm_df2⟩
  · cases h
    exact ⟨mm_uw_in mm_uw3, nmX3, tyX3, tyX3_ok, mm_df3⟩
  · cases h
    exact ⟨mm_uw_in mm_uw4, nmX4, tyX4, tyX4_ok, mm_df4⟩
  · cases h
    exact ⟨mm_uw_in mm_uw5, nmX5, tyX5, tyX5_ok, mm_df5⟩
  · cases h
    exact ⟨mm_uw_in mm_uw6, nmX6, tyX6, tyX6_ok, mm_df6⟩
  · omega
theorem mm_kl_inv {ci : Nat} {f : String → u_T → Nat → Bool} (h : mm_kl ci f = true) : ∃ C T N, mm_cls[ci]? = some (C, T, N) ∧ f C T N = true := by
  unfold mm_kl at h
  split at h
  · rename_i C T N e
    exact ⟨C, T, N, e, h⟩
  · cases h
theorem mm_def_tr (g : mm_G) (a : Nat) : (mm_def a).map (mm_tr g) = mm_def a := by
  unfold mm_def
  split <;> rfl
theorem dcT {μ pc : Nat} {i : Instr} {n : Nat} (h : mm_dc μ pc i n = true) : decode (mm_by μ) pc = .ok (i, n) := of_decide_eq_true h
theorem nxT {μ nx pc : Nat} (h : mm_nx μ nx pc = true) : mm_pc μ nx = some pc := of_decide_eq_true h
theorem mm_tgt_inv {μ a pc : Nat} {off : Int} (h : mm_tgt μ a pc off = true) : ∃ t, mm_pc μ a = some t ∧ (pc : Int) + off = (t : Int) := by
  unfold mm_tgt at h
  split at h
  · rename_i t e
    exact ⟨t, e, of_decide_eq_true h⟩
  · cases h
theorem mm_sw_hit {μ pc : Nat} {x : Int32} {K : Nat → Prop} {b : Nat} : ∀ {l : List (Int32 × Nat)} {offs : List Int} {lo : Int}, mm_sws μ pc l offs lo = true → mm_sw x K b l → ((x.toInt < lo ∨ lo + (offs.length : Int) ≤ x.toInt) ∧ K b) ∨ ∃ (k : Nat) (off : Int) (t tp : Nat), x.toInt = lo + (k : Int) ∧ offs[k]? = some off ∧ K t ∧ mm_pc μ t = some tp ∧ (pc : Int) + off = (tp : Int)
  | [], [], lo, _, h => Or.inl ⟨by simp; omega, h⟩
  | [], _ :: _, lo, h, _ => by cases h
  | _ :: _, [], lo, h, _ => by simp [mm_sws] at h
  | (v, t) :: l, off :: offs, lo, h, hs => by
    simp only [mm_sws, Bool.and_eq_true] at h
    obtain ⟨h1, h2, h3⟩ := h
    have h1 : v.toInt = lo := of_decide_eq_true h1
    obtain ⟨tp, e1, e2⟩ := mm_tgt_inv h2
    by_cases hx : x = v
    · exact Or.inr ⟨0, off, t, tp, by rw [hx, h1]; simp, rfl, hs.1 hx, e1, e2⟩
    · have hne : x.toInt ≠ lo := fun e => hx (Int32.toInt_inj.mp (e.trans h1.symm))
      rcases mm_sw_hit h3 (hs.2 hx) with ⟨q1, q2⟩ | ⟨k, off', t', tp', q1, q2, q3⟩
      · refine Or.inl ⟨?_, q2⟩
        simp only [List.length_cons]
        omega
      · exact Or.inr ⟨k + 1, off', t', tp', by rw [q1]; simp; omega, by simpa using q2, q3⟩
theorem mm_cats (r : List Value) (h : r.length ≤ 4) (g : mm_G) : ((r.map (mm_tr g)).map fun v => v.category).sum ≤ 8 := by
  have hk : ∀ l : List Value, ((l.map (mm_tr g)).map fun v => v.category).sum ≤ 2 * l.length := by
    intro l
    induction l with
    | nil => simp
    | cons a l ih =>
      have : (mm_tr g a).category ≤ 2 := by cases a <;> simp [mm_tr, Value.category]
      simp at ih ⊢
      omega
  have := hk r
  omega
/-! what is known of a state, of a method, of its end -/
def mm_T (g : mm_G) (U : State) (H : Heap) : Prop := va_K (gvD g) mm_cls (mm_tys g) U ∧ (∀ x ∈ lw_tbl, mm_nest x = true → va_Nw x U) ∧ va_AO RX1 U ∧ va_AO RX3 U ∧ va_Z RX5 "LETTERS" "[I" (.ref (gvt g)) (mm_A g) U H ∧ va_T .int (gvt g) 6 (fun j => .int (mm_let j)) (mm_A g) U H ∧ va_X (gvb g) (gvL g) (gvx g) U H ∧ gvt g < gvz g ∧ gvb g < gvz g ∧ gvz g ≤ H.size
theorem mm_T.moved {g : mm_G} {s U : State} {H H1 : Heap} (h : mm_T g s H) (hW : s.WarmedH U.vm) (hk : ∀ q, q < H.size → ¬ mm_A g q → H1[q]? = H[q]?) (hz : gvz g ≤ H1.size) : mm_T g U H1 := by
  obtain ⟨h1, h2, h3, h4, h5, h6, h7, h8, h9, h10⟩ := h
  have n1 : ¬ mm_A g (gvt g) := Nat.not_le.mpr h8
  have n2 : ¬ mm_A g (gvb g) := Nat.not_le.mpr h9
  refine ⟨va_K.moved hW.alike h1, fun x hx hn => ?_, va_AO.moved hW.alike h3, va_AO.moved hW.alike h4, (va_Z.moved hW.alike h5).kept hk, (va_T.moved hW.alike h6).kept hk, (va_X.moved hW.alike h7).kept (hk _ (by omega) n2), h8, h9, hz⟩
  have h0 := h2 x hx hn
  cases x <;> first
    | exact va_Nw.warmM hW h0
    | exact va_Nw.warmF hW h0
    | cases hn
theorem mm_nest_tab {x : Cond} (h : mm_nest x = true) : x.onTables = true := by
  cases x <;> first
    | rfl
    | cases h
theorem mm_T.called {g : mm_G} {U : State} {f : JFrame} {mk : MethodId} {a : Array Value} (h : mm_T g U U.heap) : mm_T g (U.calling f mk a) (U.calling f mk a).heap := by
  obtain ⟨h1, h2, h3, h4, h5, h6, h7, h8, h9, h10⟩ := h
  exact ⟨va_K.moved (u := U) (U := U.calling f mk a) (Vm.Alike.refl U.vm) h1, fun x hx hn => va_Nw.same (u := U) (U := U.calling f mk a) (mm_nest_tab hn) rfl (h2 x hx hn), va_AO.moved (u := U) (U := U.calling f mk a) (Vm.Alike.refl U.vm) h3, va_AO.moved (u := U) (U := U.calling f mk a) (Vm.Alike.refl U.vm) h4, va_Z.moved (u := U) (U := U.calling f mk a) (Vm.Alike.refl U.vm) h5, va_T.moved (u := U) (U := U.calling f mk a) (Vm.Alike.refl U.vm) h6, va_X.moved (u := U) (U := U.calling f mk a) (Vm.Alike.refl U.vm) h7, h8, h9, h10⟩
def mm_Cx (g : mm_G) (d μ : Nat) (p : Program) (R : Room) (s : State) (m : MethodId) (args : Array Value) (meth : Method) (c : Code) : Prop :=
  p.tables.exec = Jvm.exec ∧ c.code = mm_by μ ∧ c.maxLocals = mm_ml μ ∧ s.vm.findClass (mm_ow μ) = some m.cls ∧ (∀ x ∈ mm_gt, x.before args s = true) ∧ mm_T g s s.heap ∧ (mm_in μ = true → meth.name = "<init>") ∧ d ≤ R.frames ∧ 100 * d ≤ R.locals ∧ μ < mm_cnt ∧ R.slots ≤ 7302250
def mm_rk (μ : Nat) (i : Instr) (r : Option Value) : Prop := (i = .ireturn ∧ ∃ x : Int32, r = some (.int x) ∧ (mm_rt μ = some .int ∨ (mm_rt μ = some .boolean ∧ (x = 0 ∨ x = 1)))) ∨ (i = .lreturn ∧ mm_rt μ = some .long ∧ ∃ x : Int64, r = some (.long x)) ∨ (i = .return_ ∧ mm_rt μ = none ∧ r = none)
def mm_Rt (l : Launch) (g : mm_G) (μ : Nat) (p : Program) (e : Env) (R : Room) (s : State) (m : MethodId) (args : Array Value) (below : List Frame) (meth : Method) (c : Code) (mc ms : Nat) (Z : State → Prop) (Q : mm_K) : Prop :=
  ∀ (H' : Heap) (locs' : List Loc) (cells' slots' pc : Nat) (sl : Array Slot) (r : Option Value) (h' : mm_H) (i : Instr), Q r h' → mm_R g H' h' → va_S (mm_A g) s.heap H' locs' → cells' ≤ mc → slots' ≤ ms → decode (mm_by μ) pc = .ok (i, 1) → mm_rk μ i r → W p l e R s m args below meth c H' locs' cells' slots' Z (F0 m pc sl (r.toList.map (mm_tr g)))
def mm_Re (l : Launch) (g : mm_G) : mm_X := fun d μ ip al ls st h Q =>
  ∀ (p : Program) (e : Env) (R : Room) (s : State) (m : MethodId) (args : Array Value) (below : List Frame) (meth : Method) (c : Code) (H : Heap) (locs : List Loc) (cells slots mc ms : Nat) (sl : Array Slot) (Z : State → Prop),
    mm_Cx g d μ p R s m args meth c → mm_Rt l g μ p e R s m args below meth c mc ms Z Q → mm_R g H h → va_S (mm_A g) s.heap H locs → mm_L g sl (mm_ml μ) ls → cells + al.1 ≤ mc → slots + al.2 ≤ ms → mc ≤ R.cells → ms ≤ R.slots →
    ∀ pc, mm_pc μ ip = some pc → W p l e R s m args below meth c H locs cells slots Z (F0 m pc sl (st.map (mm_tr g)))
theorem mm_Re_mono (l : Launch) (g : mm_G) : mm_mono (mm_Re l g) := by
  intro d μ ip al ls st h Q Q' hq hX p e R s m args below meth c H locs cells slots mc ms sl Z hC hRt
  exact hX p e R s m args below meth c H locs cells slots mc ms sl Z hC (fun H' locs' cells' slots' pc sl r h' i z => hRt H' locs' cells' slots' pc sl r h' i (hq _ _ z))
def mm_rm (d μ : Nat) : Room := { frames := d, cells := (mm_al μ).1, slots := (mm_al μ).2, locals := 100 * d }
def mm_wsm (μ : Nat) : List Cond := Cond.code (mm_y μ) (mm_by μ) (mm_ml μ) (mm_rt μ) :: mm_gt
def mm_Pc (g : mm_G) (h : mm_H) (As : List Value) : Array Value → State → Prop := va_Pc (As.map (mm_tr g)) (fun U => mm_T g U U.heap ∧ mm_R g U.heap h)
def mm_Qc (g : mm_G) (K : mm_K) : Array Value → State → Outcome → State → Prop := fun _ st o t => ∃ r h', o = .returned (r.map (mm_tr g)) ∧ K r h' ∧ mm_R g t.heap h' ∧ va_F (mm_A g) st t
theorem mm_mth_inv {a : Nat} (h : mm_mth a = true) : Cond.initialized (mm_y a).cls ∈ mm_gt ∧ Cond.code (mm_y a) (mm_by a) (mm_ml a) (mm_rt a) ∈ mm_gt ∧ mm_ml a ≤ 80 ∧ plainName (mm_y a).cls = true ∧ (mm_y a).cls ≠ "java/lang/invoke/MethodHandle" ∧ (mm_y a).cls ≠ "java/lang/invoke/VarHandle" ∧ (mm_y a).cls = mm_ow a ∧ (mm_in a = true → (mm_y a).name = "<init>") := by
  unfold mm_mth at h
  simp only [Bool.and_eq_true] at h
  obtain ⟨h1, h2, h3, h4, h5, h6, h7, h8⟩ := h
  exact ⟨mm_wd_in h1, mm_wd_in h2, Nat.le_of_ble_eq_true h3, h4, of_decide_eq_true h5, of_decide_eq_true h6, of_decide_eq_true h7, of_decide_eq_true h8⟩
set_option maxHeartbeats 4000000 in
/-- a method's contract out of what its code does in the mini machine -/
theorem mm_met {l : Launch} {g : mm_G} {d a : Nat} {As : List Value} {h : mm_H} {K : mm_K} (hX : mm_Re l g d a 0 (mm_al a) (mm_ent (mm_ml a) As) [] h K) (hm : mm_mth a = true) (ha : a < mm_cnt) (hz : (mm_al a).2 ≤ 7302250) (hA : mm_akd As = true) (hn : (mm_ex As).length ≤ mm_ml a) (hpc : mm_pc a 0 = some 0) : Met l (mm_y a) (mm_wsm a) (mm_rm d a) (mm_Pc g h As) (mm_Qc g K) (mm_al a).1 (mm_al a).2 (mm_A g) := by
  obtain ⟨m1, m2, m3, m4, m5, m6, m7, m8⟩ := mm_mth_inv hm
  refine Met.ofW (cc := mm_by a) (maxL := mm_ml a) (ret := mm_rt a) m4 rfl ?_
  intro p e s m args below meth c s₁ B hml hv
  obtain ⟨rfl, hT, hR⟩ := hv
  have hx := B.exec
  have hb := B.bytes
  have hr := B.returns
  have hlocks := B.notSynchronized
  have hts := atoms_spec (ws := mm_wsm a) B.pre
  have hown : s.vm.findClass (mm_y a).cls = some m.cls := findClass_of_methodNamed B.named
  have hnm : meth.name = (mm_y a).name := (name_of_methodNamed B.named B.method).1
  rw [lg_entry_eq]
  refine hX p e (mm_rm d a) s m _ below meth c s.heap [] 0 0 (mm_al a).1 (mm_al a).2 _ _ ⟨hx, hb, hml, by rw [← m7]; exact hown, fun x hx => hts x (List.mem_cons_of_mem _ hx), hT, fun z => hnm.trans (m8 z), Nat.le_refl _, Nat.le_refl _, ha, hz⟩ ?_ hR va_S.rf (mm_L.entry g hA hn) (by omega) (by omega) (Nat.le_refl _) (Nat.le_refl _) 0 hpc
  intro H' locs' cells' slots' pc sl r h' i hq hR' hS' hc hs hd hk
  refine W.widen hc hs ?_
  rcases hk with ⟨rfl, x, rfl, hrt | ⟨hrt, hx01⟩⟩ | ⟨rfl, hrt, x, rfl⟩ | ⟨rfl, hrt, rfl⟩
  · exact W.iret hx hb (hr.trans hrt) (fun t ht hW => ⟨some (.int x), h', rfl, hq, by rw [ht]; exact hR', hS'.F ht⟩) (fun q hq => hS'.2.2 q hq) hd
  · exact W.zret hx hb (hr.trans hrt) (by rcases hx01 with rfl | rfl <;> rfl) (fun t ht hW => ⟨some (.int x), h', rfl, hq, by rw [ht]; exact hR', hS'.F ht⟩) (fun q hq => hS'.2.2 q hq) hd
  · exact W.lret hx hb (hr.trans hrt) (fun t ht hW => ⟨some (.long x), h', rfl, hq, by rw [ht]; exact hR', hS'.F ht⟩) (fun q hq => hS'.2.2 q hq) hd
  · exact W.vret hx hb (hr.trans hrt) (fun t ht hW => ⟨none, h', rfl, hq, by rw [ht]; exact hR', hS'.F ht⟩) (fun q hq => hS'.2.2 q hq) hd
section MG
variable {p : Program} {l : Launch} {e : Env} {R : Room} {s : State} {m : MethodId} {args : Array Value} {below : List Frame} {meth : Method} {c : Code} {H : Heap} {locs : List Loc} {cells slots : Nat} {Z : State → Prop}
/-- behind a call -/
theorem mm_go {g : mm_G} {K : mm_K} {a : Array Value} {pc mc ms : Nat} {sl : Array Slot} {st0 rest : List Value} (hr : va_Run p l e R s m args below meth c H locs cells slots mc ms (F0 m pc sl st0) rest (mm_Qc g K a) (mm_A g)) (hS : va_S (mm_A g) s.heap H locs)
    (kk : ∀ (r : Option Value) (h' : mm_H) (H1 : Heap) (locs1 : List Loc), K r h' → mm_R g H1 h' → va_S (mm_A g) s.heap H1 locs1 → W p l e R s m args below meth c H1 locs1 (cells + mc) (slots + ms) Z (F0 m (pc + 3) sl ((r.map (mm_tr g)).toList ++ rest))) : W p l e R s m args below meth c H locs cells slots Z (F0 m pc sl st0) := by
  intro T hT X
  obtain ⟨v, st₀, t, T', L, h0, X', hL, e1, e2, ⟨r, h', hv, hK, hR, hz, hk⟩, st⟩ := hr T hT X
  cases hv
  rw [h0] at hz hk
  obtain ⟨t2, a1, b1⟩ := kk r h' T'.heap (locs ++ L) hK (by rw [e1]; exact hR)
    ⟨Nat.le_trans hS.1 (by rw [e1]; exact hz), fun q h1 h2 => by rw [e1, hk q (Nat.lt_of_lt_of_le h1 hS.1) h2]; exact hS.2.1 q h1 h2, fun q hq => by
      rcases List.mem_append.mp hq with h | h
      · exact hS.2.2 q h
      · exact hL q h⟩ T' rfl X'
  exact ⟨t2, st t2 a1, b1⟩
end MG
theorem mm_gt_good : GoodIn mm_gt mm_gt := fun x hx => ⟨hx, good_of_word (List.mem_filter.mp hx).2⟩
theorem mm_wsm_good {a : Nat} (hm : mm_mth a = true) : GoodIn mm_gt (mm_wsm a) := fun x hx => by
  rcases List.mem_cons.mp hx with e | e
  · rw [e]
    exact mm_gt_good _ (mm_mth_inv hm).2.1
  · exact mm_gt_good x e
theorem mm_Pc_blind (g : mm_G) (h : mm_H) (As : List Value) : FrameBlind (mm_Pc g h As) := by
  intro a U f mk q
  obtain ⟨q1, q2, q3⟩ := q
  exact ⟨q1, q2.called, q3⟩
theorem mm_Pc_at {g : mm_G} {s : State} {H : Heap} {h : mm_H} {As : List Value} {locs : List Loc} (hT : mm_T g s s.heap) (hS : va_S (mm_A g) s.heap H locs) (hR : mm_R g H h) : ∀ U : State, U.heap = H → s.WarmedH U.vm → mm_Pc g h As (As.map (mm_tr g)).toArray U := by
  intro U hU hW
  have hz : gvz g ≤ H.size := Nat.le_trans hT.2.2.2.2.2.2.2.2.2 hS.1
  exact ⟨rfl, by rw [hU]; exact hT.moved hW (fun q h1 h2 => hS.2.1 q h1 h2) hz, by rw [hU]; exact hR⟩
end
section
/-! rows of stores that say that nothing is made -/
section MST
variable {p : Program} {l : Launch} {e : Env} {R : Room} {s : State} {m : MethodId} {args : Array Value} {below : List Frame} {meth : Method} {c : Code} {H : Heap} {locs : List Loc} {cells slots : Nat} {Z : State → Prop}
theorem mm_iast {g : mm_G} {h : mm_H} {cc : ByteArray} (hx : p.tables.exec = Jvm.exec) (hb : c.code = cc) (hK : va_K (gvD g) mm_cls (mm_tys g) s) (hR : mm_R g H h) (hS : va_S (mm_A g) s.heap H locs) {o n : Nat} {f : Nat → Int32} (eo : h.2 o = mI n f) {i x : Int32} (hin : vp_in i n) {pc : Nat} {sl : Array Slot} {rest : List Value} (hdg : decode cc pc = .ok (.iastore, 1))
    (kk : ∀ (H1 : Heap) (locs1 : List Loc), mm_R g H1 (h.1, mU h.2 o (mI n (upd f i.toNatClampNeg x))) → va_S (mm_A g) s.heap H1 locs1 → W p l e R s m args below meth c H1 locs1 cells slots Z (F0 m (pc + 1) sl rest)) : W p l e R s m args below meth c H locs cells slots Z (F0 m pc sl (.int x :: .int i :: .ref (mm_ad g o) :: rest)) := by
  obtain ⟨h2, ho, hw⟩ := hR.ints eo
  have hP := hR.2.2.2.2.2
  have hcell : H[mm_ad g o]? = some (vp_cell (gvI g) (n, .inl f)) := hP _ _ hw
  refine W.iast hx hb hcell ((hK.2 0 _ rfl).1 n (fun j => .int (f j))) (fun q => by cases q) (by show ¬ (i < 0 ∨ (arrV _ _ _).slots.size ≤ _); rw [arrV_size]; exact hin) rfl rfl hdg fun H1 e1 z1 o1 => ?_
  refine kk H1 _ (hR.put h2 ho (fun _ => z1) (hP.set (mm_ws_D g h) hw ?_ o1)) (hS.put z1 o1 ((mm_ws_D g h).2 _ _ hw))
  show H1[mm_ad g o]? = some (vp_cell _ _)
  rw [e1, vp_cell_i, vp_cell_i, arrV_store]
  congr 2
  funext q
  by_cases hq : q = i.toNatClampNeg
  · subst hq
    simp [updV, upd]
  · simp [updV, upd, hq]
theorem mm_fits {ty : FieldType} {w v : Value} (g : mm_G) (h1 : mm_fty (some ty) (some w) = true) (h2 : mm_fit w v = true) : narrow ty (mm_tr g v) = mm_tr g v ∧ fits ty (mm_tr g v) = true := by
  cases w <;> cases v <;> first
    | (exfalso; simp [mm_fit] at h2; done)
    | (cases ty <;> first
        | (exfalso; simp [mm_fty] at h1; done)
        | exact ⟨rfl, rfl⟩)
theorem mm_put {g : mm_G} {h : mm_H} {cc : ByteArray} {own C : String} {T : u_T} {N index a b : Nat} (hx : p.tables.exec = Jvm.exec) (hb : c.code = cc) (hts : ∀ x ∈ mm_gt, x.before args s = true) (hown : s.vm.findClass own = some m.cls) (hK : va_K (gvD g) mm_cls (mm_tys g) s) (hR : mm_R g H h) (hS : va_S (mm_A g) s.heap H locs) (hcl : mm_cls[a]? = some (C, T, N)) (hbN : b < N) (hlink : (Cond.fieldLink own index (T b).1 (T b).2.1 (T b).2.2.1).before args s = true) {fw : Value} (hty0 : mm_fty (parseFieldDescriptor (T b).2.2.1) (some fw) = true) (hfin : (T b).2.2.2 = false ∨ ((T b).2.2.2 = true ∧ meth.name = "<init>" ∧ (T b).1 = own)) {o : Nat} {fs : List Value} (eo : h.2 o = mO a fs) {v : Value} (hv : mm_fit fw v = true) (hl : b < fs.length) {pc : Nat} {sl : Array Slot} {rest : List Value} (hdg : decode cc pc = .ok (.putfield index, 3))
    (kk : ∀ (H1 : Heap) (locs1 : List Loc), mm_R g H1 (h.1, mU h.2 o (mO a (fs.set b v))) → va_S (mm_A g) s.heap H1 locs1 → W p l e R s m args below meth c H1 locs1 cells slots Z (F0 m (pc + 3) sl rest)) : W p l e R s m args below meth c H locs cells slots Z (F0 m pc sl (mm_tr g v :: .ref (mm_ad g o) :: rest)) := by
  obtain ⟨ha7, hin, hnm, ty0, hty, hdf⟩ := mm_kn_of hcl
  have hd : parseFieldDescriptor (T b).2.2.1 = some (ty0 b) := hty b hbN
  rw [hd] at hty0
  obtain ⟨hn, hfit⟩ := mm_fits g hty0 hv
  obtain ⟨h2, ho, hw⟩ := hR.obj eo (by omega)
  have hP := hR.2.2.2.2.2
  have hap := va_apart (own := own) (args := args) hts hin ty0 hty hnm hK hcl
  obtain ⟨r, h1, cell, q1, q2, q3, q4⟩ := hP _ _ hw
  have hr : r = (C, T, N) := Option.some.inj (h1.symm.trans hcl)
  subst hr
  obtain ⟨hSl, hfc, kC, hkC, hkind⟩ := hK.1 a _ hcl
  obtain ⟨cf, kf, fi, f, hi, hsl⟩ := hSl b hbN
  have hlay := hts _ (hin _ (u_in_lay hbN))
  have hst := (u_facts hfc hkC (u_lays hts hin hbN) hi).1
  have hfin9 : ∀ (H' : Heap), H'[mm_ad g o]? = some (cell.setSlot f.slot (mm_tr g v)) → H'.size = H.size → (∀ q, q ≠ mm_ad g o → H'[q]? = H[q]?) → W p l e R s m args below meth c H' (locs ++ [⟨mm_ad g o, f.slot⟩]) cells slots Z (F0 m (pc + 3) sl rest) := by
    intro H' e1 z1 o1
    refine kk H' _ (hR.put h2 ho (fun _ => z1) ?_) (hS.put z1 o1 ((mm_ws_D g h).2 _ _ hw))
    refine hP.set (mm_ws_D g h) hw ?_ o1
    refine ⟨_, hcl, ?_⟩
    rw [hsl] at e1
    have hl' : b < (fs.map (mm_tr g)).length := by rw [List.length_map]; exact hl
    refine t_OB.to (V := updV (vp_V (fs.map (mm_tr g))) b (mm_tr g v)) ⟨_, e1, q2, q3, t_set q4 hap hbN (mm_tr g v)⟩ (fun j _ => ?_)
    rw [vp_updV_set hl' (mm_tr g v) j, ← List.map_set]
  rcases hfin with hf0 | ⟨hf1, hf2, hf3⟩
  · unfold u_lay at hlay
    rw [if_neg (by rw [hf0]; decide)] at hlay
    have h6 := u_store hfc hkC hkind hlay hi hd hn hfit
    exact W.putK hx hb (f := f) ⟨hown, hlink, ⟨_, _, _, hi⟩, hst⟩ (by rw [q2]; exact h6) q1 q3 (by rw [hsl]; exact k2_hasslot (q4 b hbN)) rfl rfl hdg hfin9
  · unfold u_lay at hlay
    rw [if_pos hf1] at hlay
    have hcf : m.cls = cf := by
      obtain ⟨_, _, c', _, _, _, -, -, hf', -, -, -, hown2, -⟩ := Cond.laysFinal_spec hlay
      have e1 : c' = cf := by have := hi.symm.trans hf'; simp at this; exact this.1.symm
      rw [hf3] at hown2
      rw [← e1]
      exact Option.some.inj (hown.symm.trans hown2)
    have h6 := u_fits hfc hkC hkind (Or.inr hlay) hi hd hn hfit
    exact W.putFinK hx hb hown hlink hi hst hcf hf2 (by rw [q2]; exact h6) q1 q3 (by rw [hsl]; exact k2_hasslot (q4 b hbN)) rfl rfl hdg hfin9
theorem mm_ca_ty {g : mm_G} {ci : Nat} (h : ci = 1 ∨ ci = 3) : ∃ (t0 : Nat) (r : vw_C), mm_cls[ci]? = some r ∧ (mm_tys g)[t0]? = some (mm_ca g ci, .object r.1) := by
  rcases h with rfl | rfl
  · exact ⟨1, _, rfl, rfl⟩
  · exact ⟨2, _, rfl, rfl⟩
theorem mm_aast {g : mm_G} {h : mm_H} {cc : ByteArray} (hx : p.tables.exec = Jvm.exec) (hb : c.code = cc) (hK : va_K (gvD g) mm_cls (mm_tys g) s) (hR : mm_R g H h) (hS : va_S (mm_A g) s.heap H locs) {o n v ci : Nat} {f : Nat → Option Nat} (eo : h.2 o = mR ci n f) {fs : List Value} (ev : h.2 v = mO ci fs) {i : Int32} (hin : vp_in i n) {pc : Nat} {sl : Array Slot} {rest : List Value} (hdg : decode cc pc = .ok (.aastore, 1))
    (kk : ∀ (H1 : Heap) (locs1 : List Loc), mm_R g H1 (h.1, mU h.2 o (mR ci n (va_up f i.toNatClampNeg (some v)))) → va_S (mm_A g) s.heap H1 locs1 → W p l e R s m args below meth c H1 locs1 cells slots Z (F0 m (pc + 1) sl rest)) : W p l e R s m args below meth c H locs cells slots Z (F0 m pc sl (.ref (mm_ad g v) :: .int i :: .ref (mm_ad g o) :: rest)) := by
  obtain ⟨h2, ho, hci, hw⟩ := hR.refs eo
  obtain ⟨t0, r, hc, ht⟩ := mm_ca_ty (g := g) hci
  obtain ⟨h2v, hov, hwv⟩ := hR.obj ev (by omega)
  have hP := hR.2.2.2.2.2
  have hlt : i.toNatClampNeg < n := Nat.not_le.mp fun q => hin (Or.inr q)
  have h0 : ¬ i < 0 := fun q => hin (Or.inl q)
  obtain ⟨r', hr', cellV, g1, g2, g3, -⟩ := hP _ _ hwv
  have hcls := (hK.1 ci r hc).2
  obtain ⟨kA, comp, k1, k2, k3, -⟩ := (hK.2 t0 _ ht).2
  have hcomp : comp = (gvD g).1 ci := Option.some.inj (k3.symm.trans hcls.1)
  subst hcomp
  obtain ⟨kC, hkC, -⟩ := hcls.2
  have hcell : H[mm_ad g o]? = some (vp_cell (mm_ca g ci) (n, mm_q g f)) := hP _ _ hw
  refine W.aast hx hb hcell (fun q h => by cases h) (fun h => by cases h) k1 k2 rfl hkC ⟨h0, by show _ < (arrV _ _ _).slots.size; rw [arrV_size]; exact hlt⟩ g1 (fun q h => by rw [g3] at h; cases h) (by rw [g2]; exact hkC) (by rw [g2]; exact va_assign hcls) rfl rfl hdg fun H1 e1 z1 o1 => ?_
  refine kk H1 _ (hR.put h2 ho (fun _ => z1) (hP.set (mm_ws_D g h) hw ?_ o1)) (hS.put z1 o1 ((mm_ws_D g h).2 _ _ hw))
  have en : mm_en g (mR ci n (va_up f i.toNatClampNeg (some v))) = .inl (mm_ca g ci, n, mm_q g (va_up f i.toNatClampNeg (some v))) := by
    rcases hci with rfl | rfl <;> rfl
  rw [en]
  show H1[mm_ad g o]? = some (vp_cell _ _)
  rw [e1]
  unfold mm_q
  rw [vp_cell_q, vp_cell_q, arrV_store]
  congr 2
  funext q
  by_cases hq : q = i.toNatClampNeg
  · subst hq
    simp [updV, va_up, va_rf]
  · simp [updV, va_up, hq]
theorem mm_new {g : mm_G} {h : mm_H} {cc : ByteArray} {own C : String} {T : u_T} {N index a : Nat} (hx : p.tables.exec = Jvm.exec) (hb : c.code = cc) (hts : ∀ x ∈ mm_gt, x.before args s = true) (hown : s.vm.findClass own = some m.cls) (hK : va_K (gvD g) mm_cls (mm_tys g) s) (hR : mm_R g H h) (hS : va_S (mm_A g) s.heap H locs) (hcl : mm_cls[a]? = some (C, T, N)) (w1 : (Cond.classLink own index C).before args s = true) (w2 : (Cond.instantiable C N).before args s = true) (w3 : (Cond.initialized C).before args s = true) (hf : h.1 < mm_full) (hc1 : cells + 1 ≤ R.cells) (hc2 : slots + N ≤ R.slots) {pc : Nat} {sl : Array Slot} {st : List Value} (hdg : decode cc pc = .ok (.new index, 3))
    (kk : ∀ (H1 : Heap), mm_R g H1 (h.1 + 1, mU h.2 h.1 (mO a (mm_def a))) → va_S (mm_A g) s.heap H1 locs → W p l e R s m args below meth c H1 locs (cells + 1) (slots + N) Z (F0 m (pc + 3) sl (.ref (mm_ad g h.1) :: st))) : W p l e R s m args below meth c H locs cells slots Z (F0 m pc sl st) := by
  obtain ⟨ha7, hin, hnm, ty0, hty, hdf⟩ := mm_kn_of hcl
  have hKn := hK.1 a _ hcl
  have had := mm_ad_top hR hf
  refine W.newcK hx hb hown w1 w2 w3 rfl hdg hc1 hc2 hKn.2.1 rfl fun H1 kC hkC e1 z1 o1 => ?_
  have hK2 := kk H1 (hR.push hf z1 o1 ?_) ⟨Nat.le_trans hS.1 (by omega), fun q h1 h2 => (o1 q (Nat.lt_of_lt_of_le h1 hS.1)).trans (hS.2.1 q h1 h2), hS.2.2⟩
  · rw [had] at hK2
    exact hK2
  · rw [had]
    refine ⟨_, hcl, ?_⟩
    refine (u_born ty0 hts hin hKn hkC e1 hty).to (fun j hj => ?_)
    rw [mm_def_tr]
    exact hdf j hj
theorem mm_newi {g : mm_G} {h : mm_H} {cc : ByteArray} (hx : p.tables.exec = Jvm.exec) (hb : c.code = cc) (w1 : (Cond.arrayClass .int).before args s = true) (hK : va_K (gvD g) mm_cls (mm_tys g) s) (hR : mm_R g H h) (hS : va_S (mm_A g) s.heap H locs) (hf : h.1 < mm_full) {n : Int32} (hn : ¬ n < 0) (hn2 : n.toNatClampNeg ≤ 7302250) (hc1 : cells + 1 ≤ R.cells) (hc2 : slots + n.toNatClampNeg ≤ R.slots) {pc : Nat} {sl : Array Slot} {st : List Value} (hdg : decode cc pc = .ok (.newarray .int, 2))
    (kk : ∀ (H1 : Heap), mm_R g H1 (h.1 + 1, mU h.2 h.1 (mI n.toNatClampNeg (fun _ => 0))) → va_S (mm_A g) s.heap H1 locs → W p l e R s m args below meth c H1 locs (cells + 1) (slots + n.toNatClampNeg) Z (F0 m (pc + 2) sl (.ref (mm_ad g h.1) :: st))) : W p l e R s m args below meth c H locs cells slots Z (F0 m pc sl (.int n :: st)) := by
  have had := mm_ad_top hR hf
  refine va_newaK hx hb (atype := .int) w1 rfl hdg rfl hn rfl (by show n.toNatClampNeg * 4 ≤ _; omega) hc1 hc2 rfl fun H1 cA e1 z1 o1 hAr hNm => ?_
  have hcA : cA = gvI g := by
    have z : s.vm.findClass ("[" ++ (FieldType.int).toString) = some (gvI g) := (hK.2 0 _ rfl).2
    exact Option.some.inj (hNm.symm.trans z)
  subst hcA
  have hK2 := kk H1 (hR.push hf z1 o1 ?_) ⟨Nat.le_trans hS.1 (by omega), fun q h1 h2 => (o1 q (Nat.lt_of_lt_of_le h1 hS.1)).trans (hS.2.1 q h1 h2), hS.2.2⟩
  · rw [had] at hK2
    exact hK2
  · rw [had]
    exact e1
theorem mm_newr {g : mm_G} {h : mm_H} {cc : ByteArray} {own : String} {index a : Nat} {r : vw_C} (hx : p.tables.exec = Jvm.exec) (hb : c.code = cc) (hown : s.vm.findClass own = some m.cls) (ha : a = 1 ∨ a = 3) (hcl : mm_cls[a]? = some r) (w1 : (Cond.classLink own index r.1).before args s = true) (w2 : va_AO r.1 s) (hK : va_K (gvD g) mm_cls (mm_tys g) s) (hR : mm_R g H h) (hS : va_S (mm_A g) s.heap H locs) (hf : h.1 < mm_full) {n : Int32} (hn : ¬ n < 0) (hn2 : n.toNatClampNeg ≤ 7302250) (hc1 : cells + 1 ≤ R.cells) (hc2 : slots + n.toNatClampNeg ≤ R.slots) {pc : Nat} {sl : Array Slot} {st : List Value} (hdg : decode cc pc = .ok (.anewarray index, 3))
    (kk : ∀ (H1 : Heap), mm_R g H1 (h.1 + 1, mU h.2 h.1 (mR a n.toNatClampNeg (fun _ => none))) → va_S (mm_A g) s.heap H1 locs → W p l e R s m args below meth c H1 locs (cells + 1) (slots + n.toNatClampNeg) Z (F0 m (pc + 3) sl (.ref (mm_ad g h.1) :: st))) : W p l e R s m args below meth c H locs cells slots Z (F0 m pc sl (.int n :: st)) := by
  have had := mm_ad_top hR hf
  refine W.anew hx hb hown w1 (va_AO.use w2) rfl hdg rfl hn (by omega) hc1 hc2 fun cA kA comp f1 f2 f3 f4 => ?_
  have hcA : cA = mm_ca g a := by
    obtain ⟨t0, r', hr', ht⟩ := mm_ca_ty (g := g) ha
    have er : r' = r := Option.some.inj (hr'.symm.trans hcl)
    subst er
    obtain ⟨_, _, _, _, _, k4⟩ := (hK.2 t0 _ ht).2
    exact Option.some.inj (f1.symm.trans k4)
  subst hcA
  generalize hH1 : H.push ({ cls := mm_ca g a, slots := Array.replicate n.toNatClampNeg .null, vm := .none } : Cell) = H1
  have z1 : H1.size = H.size + 1 := by rw [← hH1, Array.size_push]
  have e1 : H1[H.size]? = some (arrV (mm_ca g a) n.toNatClampNeg (fun _ => .null)) := by rw [← hH1, Array.getElem?_push_size, ← arrV_new]
  have o1 : ∀ q : Nat, q < H.size → H1[q]? = H[q]? := fun q hq => by rw [← hH1, Array.getElem?_push, if_neg (Nat.ne_of_lt hq)]
  have hK2 := kk H1 (hR.push hf z1 o1 ?_) ⟨Nat.le_trans hS.1 (by omega), fun q h1 h2 => (o1 q (Nat.lt_of_lt_of_le h1 hS.1)).trans (hS.2.1 q h1 h2), hS.2.2⟩
  · rw [had] at hK2
    exact hK2
  · rw [had]
    have en : mm_en g (mR a n.toNatClampNeg (fun _ => none)) = .inl (mm_ca g a, n.toNatClampNeg, mm_q g (fun _ => none)) := by
      rcases ha with rfl | rfl <;> rfl
    rw [en]
    exact e1
end MST
end
section
/-! every step of the mini machine is one of the real machine -/
theorem mm_cal_inv {μ k a n : Nat} (h : mm_cal μ k a n = true) : a < 209 ∧ (Cond.methodLink (mm_ow μ) k (mm_y a) ∈ mm_gt ∨ (Cond.methodLinkNest (mm_ow μ) k (mm_y a) "BackCourt" ∈ lw_tbl)) ∧ (parseMethodDescriptor (mm_y a).desc).map (fun d => d.parameters.length) = some n := by
  unfold mm_cal at h
  simp only [Bool.and_eq_true, Bool.or_eq_true] at h
  obtain ⟨h1, h2, h3⟩ := h
  refine ⟨by simpa [Nat.blt_eq] using h1, ?_, of_decide_eq_true h3⟩
  rcases h2 with h2 | h2
  · exact Or.inl (mm_wd_in h2)
  · exact Or.inr (mm_nw_in h2).2
theorem mm_rest_W {g : mm_G} {m : MethodId} {pc : Nat} {sl : Array Slot} {st rest : List Value} (h : rest.length ≤ 4) : 2 * (F0 m pc sl st).monitorRoom + ((rest.map (mm_tr g)).map fun v => v.category).sum ≤ 8 := lv_room (mm_cats rest h g)
theorem mm_map_rev {g : mm_G} {as rest : List Value} : (as.reverse ++ rest).map (mm_tr g) = (as.map (mm_tr g)).reverse ++ rest.map (mm_tr g) := by simp
theorem mm_al_small (a : Nat) (h : a < 209) : (mm_al a).2 ≤ 7302250 ∧ mm_pc a 0 = some 0 := by
  have H : ((List.range 209).all (fun a => Nat.ble (mm_al a).2 7302250 && decide (mm_pc a 0 = some 0))) = true := by decide +kernel
  have := List.all_eq_true.mp H a (List.mem_range.mpr h)
  rw [Bool.and_eq_true] at this
  exact ⟨Nat.le_of_ble_eq_true this.1, of_decide_eq_true this.2⟩
section MC
variable {p : Program} {l : Launch} {e : Env} {R : Room} {s : State} {m : MethodId} {args : Array Value} {below : List Frame} {meth : Method} {c : Code} {H : Heap} {locs : List Loc} {cells slots : Nat} {Z : State → Prop}
/-- a call, whatever its kind: hrun is its row -/
theorem mm_inv_W {g : mm_G} {d μ nx a pc mc ms : Nat} {al : Nat × Nat} {ls : List Value} {h : mm_H} {Q : mm_K} {As rest : List Value} {st0 : List Value} {sl : Array Slot}
    (hq : mm_inv (mm_Re l g) (mm_Re l g) d μ nx al ls h Q a As rest) (ha : a < 209) (hm : mm_mth a = true)
    (hC : mm_Cx g d μ p R s m args meth c) (hRt : mm_Rt l g μ p e R s m args below meth c mc ms Z Q) (hR : mm_R g H h) (hS : va_S (mm_A g) s.heap H locs) (hL : mm_L g sl (mm_ml μ) ls) (h1 : cells + al.1 ≤ mc) (h2 : slots + al.2 ≤ ms) (h3 : mc ≤ R.cells) (h4 : ms ≤ R.slots) (hnx : mm_pc μ nx = some (pc + 3))
    (hrun : ∀ (d' : Nat) (K : mm_K), d = d' + 1 → rest.length ≤ 4 → Met l (mm_y a) (mm_wsm a) (mm_rm d' a) (mm_Pc g h As) (mm_Qc g K) (mm_al a).1 (mm_al a).2 (mm_A g) → (mm_rm d' a).frames + 1 ≤ R.frames ∧ 8 + (mm_ml a + 11) + (mm_rm d' a).locals ≤ R.locals → cells + (mm_al a).1 ≤ R.cells ∧ slots + (mm_al a).2 ≤ R.slots → ∃ av, va_Run p l e R s m args below meth c H locs cells slots (mm_al a).1 (mm_al a).2 (F0 m pc sl st0) (rest.map (mm_tr g)) (mm_Qc g K av) (mm_A g)) : W p l e R s m args below meth c H locs cells slots Z (F0 m pc sl st0) := by
  unfold mm_inv at hq
  obtain ⟨hfew, hq⟩ := mm_few_inv hq
  obtain ⟨hb1, hq⟩ := mm_b1_inv hq
  rw [Bool.and_eq_true] at hb1
  obtain ⟨t1, t2, hq⟩ := mm_tk_inv hq
  obtain ⟨d', rfl, hq⟩ := mm_dd_inv hq
  obtain ⟨mz, mp⟩ := mm_al_small a ha
  have hM := mm_met hq hm (Nat.lt_trans ha (by decide)) mz hb1.1 (Nat.le_of_ble_eq_true hb1.2) mp
  have hml := (mm_mth_inv hm).2.2.1
  have hC0 := hC
  obtain ⟨hx, hb, hmx, hown, hts, hT, hin, hfr, hlo, hμ, hsl⟩ := hC
  obtain ⟨av, hr⟩ := hrun d' _ rfl hfew hM ⟨hfr, by show 8 + (mm_ml a + 11) + 100 * d' ≤ R.locals; omega⟩ ⟨by omega, by omega⟩
  refine mm_go hr hS (fun r h' H1 locs1 hk hR1 hS1 => ?_)
  cases r with
  | none => exact hk p e R s m args below meth c H1 locs1 _ _ mc ms sl Z hC0 hRt hR1 hS1 hL (by show cells + (mm_al a).1 + (al.1 - (mm_al a).1) ≤ mc; omega) (by show slots + (mm_al a).2 + (al.2 - (mm_al a).2) ≤ ms; omega) h3 h4 _ hnx
  | some v => exact hk p e R s m args below meth c H1 locs1 _ _ mc ms sl Z hC0 hRt hR1 hS1 hL (by show cells + (mm_al a).1 + (al.1 - (mm_al a).1) ≤ mc; omega) (by show slots + (mm_al a).2 + (al.2 - (mm_al a).2) ≤ ms; omega) h3 h4 _ hnx
end MC

set_option maxHeartbeats 8000000 in
theorem mm_closed (l : Launch) (g : mm_G) (hall : ∀ μ, μ < mm_cnt → ∀ ip q, mm_at μ ip = some q → mm_ok μ q = true) (hmth : ∀ a, a < 209 → mm_mth a = true) (d μ ip : Nat) (al : Nat × Nat) (ls st : List Value) (h : mm_H) (Q : mm_K) : mm_step (mm_Re l g) (mm_Re l g) d μ ip al ls st h Q → mm_Re l g d μ ip al ls st h Q := by
  intro hq p e R s m args below meth c H locs cells slots mc ms sl Z hC hRt hR hS hL h1 h2 h3 h4 pc hpc
  obtain ⟨hx, hb, hml, hown, hts, hT, hin, hfr, hlo, hμ, hsl⟩ := hC
  have hC : mm_Cx g d μ p R s m args meth c := ⟨hx, hb, hml, hown, hts, hT, hin, hfr, hlo, hμ, hsl⟩
  unfold mm_step at hq
  cases hat : mm_at μ ip with
  | none => rw [hat] at hq; exact hq.elim
  | some z =>
    rw [hat] at hq
    have hok := hall μ hμ ip z hat
    obtain ⟨pc', i, nx, a, b, cv, cut⟩ := z
    have hpc' : pc' = pc := by
      unfold mm_pc at hpc
      rw [hat] at hpc
      exact Option.some.inj hpc
    subst hpc'
    have hgo : ∀ {nx : Nat} {ls : List Value} {st : List Value} {n : Nat}, mm_Re l g d μ nx al ls st h Q → mm_L g sl (mm_ml μ) ls → mm_pc μ nx = some n → W p l e R s m args below meth c H locs cells slots Z (F0 m n sl (st.map (mm_tr g))) := fun hk hL hn => hk p e R s m args below meth c H locs cells slots mc ms sl Z hC hRt hR hS hL h1 h2 h3 h4 _ hn
    cases i
    case iload_n k =>
      simp only [mm_ok, Bool.and_eq_true] at hok
      obtain ⟨hd, hn, hk⟩ := hok
      obtain ⟨x, hl, hz⟩ := mm_ldI_inv hq
      refine lv_iload_n hx hb (dcT hd) (of_decide_eq_true hk) (hL.2.2.2 a _ hl rfl) ?_
      exact hgo hz hL (nxT hn)
    case iload k =>
      simp only [mm_ok, Bool.and_eq_true] at hok
      obtain ⟨hd, hn, hk⟩ := hok
      obtain ⟨x, hl, hz⟩ := mm_ldI_inv hq
      have hk := of_decide_eq_true hk
      subst hk
      refine lv_iload hx hb (dcT hd) (hL.2.2.2 _ _ hl rfl) ?_
      exact hgo hz hL (nxT hn)
    case lload_n k =>
      simp only [mm_ok, Bool.and_eq_true] at hok
      obtain ⟨hd, hn, hk⟩ := hok
      obtain ⟨x, hl, hz⟩ := mm_ldL_inv hq
      refine lv_lload_n hx hb (dcT hd) (of_decide_eq_true hk) (hL.2.2.2 a _ hl rfl) ?_
      exact hgo hz hL (nxT hn)
    case lload k =>
      simp only [mm_ok, Bool.and_eq_true] at hok
      obtain ⟨hd, hn, hk⟩ := hok
      obtain ⟨x, hl, hz⟩ := mm_ldL_inv hq
      have hk := of_decide_eq_true hk
      subst hk
      refine lv_lload hx hb (dcT hd) (hL.2.2.2 _ _ hl rfl) ?_
      exact hgo hz hL (nxT hn)
    case aload_n k =>
      simp only [mm_ok, Bool.and_eq_true] at hok
      obtain ⟨hd, hn, hk⟩ := hok
      obtain ⟨x, hl, hz⟩ := mm_ldR_inv hq
      refine lv_aload_n hx hb (dcT hd) (of_decide_eq_true hk) (hL.2.2.2 a _ hl rfl) ?_
      exact hgo hz hL (nxT hn)
    case aload k =>
      simp only [mm_ok, Bool.and_eq_true] at hok
      obtain ⟨hd, hn, hk⟩ := hok
      obtain ⟨x, hl, hz⟩ := mm_ldR_inv hq
      have hk := of_decide_eq_true hk
      subst hk
      refine lv_aload hx hb (dcT hd) (hL.2.2.2 _ _ hl rfl) ?_
      exact hgo hz hL (nxT hn)
    case istore_n k =>
      simp only [mm_ok, Bool.and_eq_true] at hok
      obtain ⟨hd, hn, hk⟩ := hok
      obtain ⟨x, r, rfl, hz⟩ := mm_i1_inv hq
      obtain ⟨hi, hz, hlg⟩ := mm_st_inv hz
      have hk := of_decide_eq_true hk
      subst hk
      refine lv_istore_n hx hb (dcT hd) rfl hL.has (by rw [← hL.2.1]; exact hi) rfl (fun sl2 hl2 => ?_)
      exact hz p e R s m args below meth c H locs cells slots mc ms sl2 Z hC hRt hR hS (hL.st hi hlg hl2) h1 h2 h3 h4 _ (nxT hn)
    case istore k =>
      simp only [mm_ok, Bool.and_eq_true] at hok
      obtain ⟨hd, hn, hk⟩ := hok
      obtain ⟨x, r, rfl, hz⟩ := mm_i1_inv hq
      obtain ⟨hi, hz, hlg⟩ := mm_st_inv hz
      have hk := of_decide_eq_true hk
      subst hk
      refine lv_istore hx hb (dcT hd) hL.has (by rw [← hL.2.1]; exact hi) rfl (fun sl2 hl2 => ?_)
      exact hz p e R s m args below meth c H locs cells slots mc ms sl2 Z hC hRt hR hS (hL.st hi hlg hl2) h1 h2 h3 h4 _ (nxT hn)
    case astore_n k =>
      simp only [mm_ok, Bool.and_eq_true] at hok
      obtain ⟨hd, hn, hk⟩ := hok
      obtain ⟨x, r, rfl, hz⟩ := mm_r1_inv hq
      obtain ⟨hi, hz, hlg⟩ := mm_st_inv hz
      have hk := of_decide_eq_true hk
      subst hk
      refine lv_astore_n hx hb (dcT hd) rfl hL.has (by rw [← hL.2.1]; exact hi) rfl (fun sl2 hl2 => ?_)
      exact hz p e R s m args below meth c H locs cells slots mc ms sl2 Z hC hRt hR hS (hL.st hi hlg hl2) h1 h2 h3 h4 _ (nxT hn)
    case astore k =>
      simp only [mm_ok, Bool.and_eq_true] at hok
      obtain ⟨hd, hn, hk⟩ := hok
      obtain ⟨x, r, rfl, hz⟩ := mm_r1_inv hq
      obtain ⟨hi, hz, hlg⟩ := mm_st_inv hz
      have hk := of_decide_eq_true hk
      subst hk
      refine lv_astore hx hb (dcT hd) hL.has (by rw [← hL.2.1]; exact hi) rfl (fun sl2 hl2 => ?_)
      exact hz p e R s m args below meth c H locs cells slots mc ms sl2 Z hC hRt hR hS (hL.st hi hlg hl2) h1 h2 h3 h4 _ (nxT hn)
    case lstore_n k =>
      simp only [mm_ok, Bool.and_eq_true] at hok
      obtain ⟨hd, hn, hk⟩ := hok
      obtain ⟨x, r, rfl, hz⟩ := mm_l1_inv hq
      obtain ⟨hi, hz, hlg⟩ := mm_st2_inv hz
      have hk := of_decide_eq_true hk
      subst hk
      refine lv_lstore_n hx hb (dcT hd) rfl hL.has (by rw [← hL.2.1]; exact hi) rfl (fun sl2 hl2 => ?_)
      exact hz p e R s m args below meth c H locs cells slots mc ms sl2 Z hC hRt hR hS (hL.st2 hi hlg hl2) h1 h2 h3 h4 _ (nxT hn)
    case lstore k =>
      simp only [mm_ok, Bool.and_eq_true] at hok
      obtain ⟨hd, hn, hk⟩ := hok
      obtain ⟨x, r, rfl, hz⟩ := mm_l1_inv hq
      obtain ⟨hi, hz, hlg⟩ := mm_st2_inv hz
      have hk := of_decide_eq_true hk
      subst hk
      refine lv_lstore hx hb (dcT hd) hL.has (by rw [← hL.2.1]; exact hi) rfl (fun sl2 hl2 => ?_)
      exact hz p e R s m args below meth c H locs cells slots mc ms sl2 Z hC hRt hR hS (hL.st2 hi hlg hl2) h1 h2 h3 h4 _ (nxT hn)
    case iinc k n =>
      simp only [mm_ok, Bool.and_eq_true] at hok
      obtain ⟨hd, hn, hk, hv⟩ := hok
      have hk := of_decide_eq_true hk
      subst hk
      have hv : cv = _ := of_decide_eq_true hv
      subst hv
      obtain ⟨x, hl, hz⟩ := mm_ldI_inv hq
      obtain ⟨hi, hz, hlg⟩ := mm_st_inv hz
      obtain ⟨k2, hk2⟩ := List.getElem?_of_mem (mm_pl_in (g := g) hl rfl)
      refine lv_iinc hx hb (dcT hd) hL.has hk2 rfl (by rw [← hL.2.1]; exact hi) rfl (fun sl2 hl2 => ?_)
      exact hz p e R s m args below meth c H locs cells slots mc ms sl2 Z hC hRt hR hS (hL.st hi hlg hl2) h1 h2 h3 h4 _ (nxT hn)
    case iconst n =>
      simp only [mm_ok, Bool.and_eq_true] at hok
      obtain ⟨hd, hn, hv⟩ := hok
      have hv : cv = _ := of_decide_eq_true hv
      subst hv
      refine lv_iconst hx hb (dcT hd) rfl ?_
      exact hgo hq hL (nxT hn)
    case bipush n =>
      simp only [mm_ok, Bool.and_eq_true] at hok
      obtain ⟨hd, hn, hv⟩ := hok
      have hv : cv = _ := of_decide_eq_true hv
      subst hv
      refine lv_bipush hx hb (dcT hd) rfl ?_
      exact hgo hq hL (nxT hn)
    case sipush n =>
      simp only [mm_ok, Bool.and_eq_true] at hok
      obtain ⟨hd, hn, hv⟩ := hok
      have hv : cv = _ := of_decide_eq_true hv
      subst hv
      refine lv_sipush hx hb (dcT hd) rfl ?_
      exact hgo hq hL (nxT hn)
    case lconst n =>
      simp only [mm_ok, Bool.and_eq_true] at hok
      obtain ⟨hd, hn, hv⟩ := hok
      have hv : cv = _ := of_decide_eq_true hv
      subst hv
      refine lv_lconst hx hb (dcT hd) rfl ?_
      exact hgo hq hL (nxT hn)
    case ldc k =>
      simp only [mm_ok, Bool.and_eq_true] at hok
      obtain ⟨hd, hn, hv⟩ := hok
      cases cv <;> first
        | (cases hv; done)
        | (refine lv_ldc hx hb hown (hts _ (mm_wd_in hv)) (dcT hd) ?_
           exact hgo hq hL (nxT hn))
    case ldc_w k =>
      simp only [mm_ok, Bool.and_eq_true] at hok
      obtain ⟨hd, hn, hv⟩ := hok
      cases cv <;> first
        | (cases hv; done)
        | (refine lv_ldcw hx hb hown (hts _ (mm_wd_in hv)) (dcT hd) ?_
           exact hgo hq hL (nxT hn))
    case ldc2_w k =>
      simp only [mm_ok, Bool.and_eq_true] at hok
      obtain ⟨hd, hn, hv⟩ := hok
      cases cv <;> first
        | (cases hv; done)
        | (refine lv_ldc2 hx hb hown (hts _ (mm_wd_in hv)) (dcT hd) ?_
           exact hgo hq hL (nxT hn))
    case getstatic k =>
      simp only [mm_ok, Bool.and_eq_true] at hok
      obtain ⟨hd, hn, hv⟩ := hok
      obtain ⟨hv1, hv2⟩ := mm_nw_in hv
      refine va_getsN hx hb hT.2.2.2.2.1 hS hown (va_Nw.use (mm_nest_tab hv1) (hT.2.1 _ hv2 hv1)) (fun _ z => z) (dcT hd) ?_
      exact hgo hq hL (nxT hn)
    case iadd =>
      simp only [mm_ok, Bool.and_eq_true] at hok
      obtain ⟨hd, hn⟩ := hok
      obtain ⟨x0, x1, r, rfl, hz⟩ := mm_i2_inv hq
      refine lv_iadd hx hb (dcT hd) ?_
      exact hgo hz hL (nxT hn)
    case isub =>
      simp only [mm_ok, Bool.and_eq_true] at hok
      obtain ⟨hd, hn⟩ := hok
      obtain ⟨x0, x1, r, rfl, hz⟩ := mm_i2_inv hq
      refine lv_isub hx hb (dcT hd) ?_
      exact hgo hz hL (nxT hn)
    case imul =>
      simp only [mm_ok, Bool.and_eq_true] at hok
      obtain ⟨hd, hn⟩ := hok
      obtain ⟨x0, x1, r, rfl, hz⟩ := mm_i2_inv hq
      refine lv_imul hx hb (dcT hd) ?_
      exact hgo hz hL (nxT hn)
    case iand =>
      simp only [mm_ok, Bool.and_eq_true] at hok
      obtain ⟨hd, hn⟩ := hok
      obtain ⟨x0, x1, r, rfl, hz⟩ := mm_i2_inv hq
      refine lv_iand hx hb (dcT hd) ?_
      exact hgo hz hL (nxT hn)
    case ior =>
      simp only [mm_ok, Bool.and_eq_true] at hok
      obtain ⟨hd, hn⟩ := hok
      obtain ⟨x0, x1, r, rfl, hz⟩ := mm_i2_inv hq
      refine lv_ior hx hb (dcT hd) ?_
      exact hgo hz hL (nxT hn)
    case ixor =>
      simp only [mm_ok, Bool.and_eq_true] at hok
      obtain ⟨hd, hn⟩ := hok
      obtain ⟨x0, x1, r, rfl, hz⟩ := mm_i2_inv hq
      refine lv_ixor hx hb (dcT hd) ?_
      exact hgo hz hL (nxT hn)
    case ishl =>
      simp only [mm_ok, Bool.and_eq_true] at hok
      obtain ⟨hd, hn⟩ := hok
      obtain ⟨x0, x1, r, rfl, hz⟩ := mm_i2_inv hq
      refine lv_ishl hx hb (dcT hd) ?_
      exact hgo hz hL (nxT hn)
    case ishr =>
      simp only [mm_ok, Bool.and_eq_true] at hok
      obtain ⟨hd, hn⟩ := hok
      obtain ⟨x0, x1, r, rfl, hz⟩ := mm_i2_inv hq
      refine lv_ishr hx hb (dcT hd) ?_
      exact hgo hz hL (nxT hn)
    case iushr =>
      simp only [mm_ok, Bool.and_eq_true] at hok
      obtain ⟨hd, hn⟩ := hok
      obtain ⟨x0, x1, r, rfl, hz⟩ := mm_i2_inv hq
      refine lv_iushr hx hb (dcT hd) rfl ?_
      exact hgo hz hL (nxT hn)
    case idiv =>
      simp only [mm_ok, Bool.and_eq_true] at hok
      obtain ⟨hd, hn⟩ := hok
      obtain ⟨x0, x1, r, rfl, hz⟩ := mm_i2_inv hq
      refine lv_idiv hx hb (dcT hd) hz.1 ?_
      exact hgo hz.2 hL (nxT hn)
    case irem =>
      simp only [mm_ok, Bool.and_eq_true] at hok
      obtain ⟨hd, hn⟩ := hok
      obtain ⟨x0, x1, r, rfl, hz⟩ := mm_i2_inv hq
      refine lv_irem hx hb (dcT hd) hz.1 ?_
      exact hgo hz.2 hL (nxT hn)
    case ladd =>
      simp only [mm_ok, Bool.and_eq_true] at hok
      obtain ⟨hd, hn⟩ := hok
      obtain ⟨x0, x1, r, rfl, hz⟩ := mm_l2_inv hq
      refine lv_ladd hx hb (dcT hd) ?_
      exact hgo hz hL (nxT hn)
    case lmul =>
      simp only [mm_ok, Bool.and_eq_true] at hok
      obtain ⟨hd, hn⟩ := hok
      obtain ⟨x0, x1, r, rfl, hz⟩ := mm_l2_inv hq
      refine lv_lmul hx hb (dcT hd) ?_
      exact hgo hz hL (nxT hn)
    case lcmp =>
      simp only [mm_ok, Bool.and_eq_true] at hok
      obtain ⟨hd, hn⟩ := hok
      obtain ⟨x0, x1, r, rfl, hz⟩ := mm_l2_inv hq
      refine W.lcmp hx hb (dcT hd) ?_
      exact hgo hz hL (nxT hn)
    case ldiv =>
      simp only [mm_ok, Bool.and_eq_true] at hok
      obtain ⟨hd, hn⟩ := hok
      obtain ⟨x0, x1, r, rfl, hz⟩ := mm_l2_inv hq
      refine lv_ldiv hx hb (dcT hd) hz.1 ?_
      exact hgo hz.2 hL (nxT hn)
    case lrem =>
      simp only [mm_ok, Bool.and_eq_true] at hok
      obtain ⟨hd, hn⟩ := hok
      obtain ⟨x0, x1, r, rfl, hz⟩ := mm_l2_inv hq
      refine lv_lrem hx hb (dcT hd) hz.1 ?_
      exact hgo hz.2 hL (nxT hn)
    case ineg =>
      simp only [mm_ok, Bool.and_eq_true] at hok
      obtain ⟨hd, hn⟩ := hok
      obtain ⟨x0, r, rfl, hz⟩ := mm_i1_inv hq
      refine lv_ineg hx hb (dcT hd) ?_
      exact hgo hz hL (nxT hn)
    case i2l =>
      simp only [mm_ok, Bool.and_eq_true] at hok
      obtain ⟨hd, hn⟩ := hok
      obtain ⟨x0, r, rfl, hz⟩ := mm_i1_inv hq
      refine lv_i2l hx hb (dcT hd) rfl ?_
      exact hgo hz hL (nxT hn)
    case i2b =>
      simp only [mm_ok, Bool.and_eq_true] at hok
      obtain ⟨hd, hn⟩ := hok
      obtain ⟨x0, r, rfl, hz⟩ := mm_i1_inv hq
      refine lv_i2b hx hb (dcT hd) rfl ?_
      exact hgo hz hL (nxT hn)
    case l2i =>
      simp only [mm_ok, Bool.and_eq_true] at hok
      obtain ⟨hd, hn⟩ := hok
      obtain ⟨x0, r, rfl, hz⟩ := mm_l1_inv hq
      refine lv_l2i hx hb (dcT hd) rfl ?_
      exact hgo hz hL (nxT hn)
    case dup =>
      simp only [mm_ok, Bool.and_eq_true] at hok
      obtain ⟨hd, hn⟩ := hok
      obtain ⟨x0, r, rfl, hz⟩ := mm_v1_inv hq
      obtain ⟨hc, hz⟩ := mm_b1_inv hz
      refine lv_dup hx hb (dcT hd) (by rw [mm_tr_cat]; exact Nat.eq_of_beq_eq_true hc) ?_
      exact hgo hz hL (nxT hn)
    case pop =>
      simp only [mm_ok, Bool.and_eq_true] at hok
      obtain ⟨hd, hn⟩ := hok
      obtain ⟨x0, r, rfl, hz⟩ := mm_v1_inv hq
      obtain ⟨hc, hz⟩ := mm_b1_inv hz
      refine lv_pop hx hb (dcT hd) (by rw [mm_tr_cat]; exact Nat.eq_of_beq_eq_true hc) ?_
      exact hgo hz hL (nxT hn)
    case dup2 =>
      simp only [mm_ok, Bool.and_eq_true] at hok
      obtain ⟨hd, hn⟩ := hok
      obtain ⟨x0, x1, r, rfl, hz⟩ := mm_v2_inv hq
      obtain ⟨hc, hz⟩ := mm_b1_inv hz
      rw [Bool.and_eq_true] at hc
      refine lv_dup2_11 hx hb (dcT hd) (by rw [mm_tr_cat]; exact Nat.eq_of_beq_eq_true hc.1) (by rw [mm_tr_cat]; exact Nat.eq_of_beq_eq_true hc.2) ?_
      exact hgo hz hL (nxT hn)
    case ifCond cd off =>
      simp only [mm_ok, Bool.and_eq_true] at hok
      obtain ⟨hd, hn, ht⟩ := hok
      obtain ⟨t, t1, t2⟩ := mm_tgt_inv ht
      cases cd
      case eq =>
        obtain ⟨x0, r, rfl, hz⟩ := mm_i1_inv hq
        exact lv_if_eq hx hb (dcT hd) t2 (fun q => hgo (hz.1 q) hL t1) (fun q => hgo (hz.2 q) hL (nxT hn))
      case ne =>
        obtain ⟨x0, r, rfl, hz⟩ := mm_i1_inv hq
        exact lv_if_ne hx hb (dcT hd) t2 (fun q => hgo (hz.1 q) hL t1) (fun q => hgo (hz.2 q) hL (nxT hn))
      case lt =>
        obtain ⟨x0, r, rfl, hz⟩ := mm_i1_inv hq
        exact lv_if_lt hx hb (dcT hd) t2 (fun q => hgo (hz.1 q) hL t1) (fun q => hgo (hz.2 q) hL (nxT hn))
      case ge =>
        obtain ⟨x0, r, rfl, hz⟩ := mm_i1_inv hq
        exact lv_if_ge hx hb (dcT hd) t2 (fun q => hgo (hz.1 q) hL t1) (fun q => hgo (hz.2 q) hL (nxT hn))
      case gt =>
        obtain ⟨x0, r, rfl, hz⟩ := mm_i1_inv hq
        exact lv_if_gt hx hb (dcT hd) t2 (fun q => hgo (hz.1 q) hL t1) (fun q => hgo (hz.2 q) hL (nxT hn))
      case le =>
        obtain ⟨x0, r, rfl, hz⟩ := mm_i1_inv hq
        exact lv_if_le hx hb (dcT hd) t2 (fun q => hgo (hz.1 q) hL t1) (fun q => hgo (hz.2 q) hL (nxT hn))
    case if_icmp cd off =>
      simp only [mm_ok, Bool.and_eq_true] at hok
      obtain ⟨hd, hn, ht⟩ := hok
      obtain ⟨t, t1, t2⟩ := mm_tgt_inv ht
      cases cd
      case eq =>
        obtain ⟨x0, x1, r, rfl, hz⟩ := mm_i2_inv hq
        exact lv_icmp_eq hx hb (dcT hd) t2 (fun q => hgo (hz.1 q) hL t1) (fun q => hgo (hz.2 q) hL (nxT hn))
      case ne =>
        obtain ⟨x0, x1, r, rfl, hz⟩ := mm_i2_inv hq
        exact lv_icmp_ne hx hb (dcT hd) t2 (fun q => hgo (hz.1 q) hL t1) (fun q => hgo (hz.2 q) hL (nxT hn))
      case lt =>
        obtain ⟨x0, x1, r, rfl, hz⟩ := mm_i2_inv hq
        exact lv_icmp_lt hx hb (dcT hd) t2 (fun q => hgo (hz.1 q) hL t1) (fun q => hgo (hz.2 q) hL (nxT hn))
      case ge =>
        obtain ⟨x0, x1, r, rfl, hz⟩ := mm_i2_inv hq
        exact lv_icmp_ge hx hb (dcT hd) t2 (fun q => hgo (hz.1 q) hL t1) (fun q => hgo (hz.2 q) hL (nxT hn))
      case gt =>
        obtain ⟨x0, x1, r, rfl, hz⟩ := mm_i2_inv hq
        exact lv_icmp_gt hx hb (dcT hd) t2 (fun q => hgo (hz.1 q) hL t1) (fun q => hgo (hz.2 q) hL (nxT hn))
      case le =>
        obtain ⟨x0, x1, r, rfl, hz⟩ := mm_i2_inv hq
        exact lv_icmp_le hx hb (dcT hd) t2 (fun q => hgo (hz.1 q) hL t1) (fun q => hgo (hz.2 q) hL (nxT hn))
    case goto off =>
      simp only [mm_ok, Bool.and_eq_true] at hok
      obtain ⟨hd, ht⟩ := hok
      obtain ⟨t, t1, t2⟩ := mm_tgt_inv ht
      exact lv_goto hx hb (dcT hd) t2 (hgo hq hL t1)
    case tableswitch df lo hi offs =>
      simp only [mm_ok, Bool.and_eq_true] at hok
      obtain ⟨hd, ht, hsw, hhi⟩ := hok
      have hhi : hi + 1 = lo + (offs.size : Int) := of_decide_eq_true hhi
      obtain ⟨x0, r, rfl, hz⟩ := mm_i1_inv hq
      have hdec : ∃ len, decode (mm_by μ) pc' = .ok (.tableswitch df lo hi offs, len) := by
        split at hd
        · rename_i j len ej
          have e2 : j = _ := of_decide_eq_true hd
          subst e2
          exact ⟨len, ej⟩
        · cases hd
      obtain ⟨len, hdec⟩ := hdec
      obtain ⟨t, t1, t2⟩ := mm_tgt_inv ht
      rcases mm_sw_hit hsw hz with ⟨q1, q2⟩ | ⟨k, off, t', tp, q1, q2, q3, q4, q5⟩
      · refine lv_tableOut hx hb hdec ?_ t2 (hgo q2 hL t1)
        simp only [Array.length_toList] at q1
        omega
      · have hkl : k < offs.size := by
          have := (List.getElem?_eq_some_iff.mp q2).1
          simpa using this
        refine lv_tableIn hx hb hdec (by omega) (by omega) (off := off) ?_ q5 (hgo q3 hL q4)
        have e1 : (x0.toInt - lo).toNat = k := by omega
        rw [e1, ← Array.getElem?_toList]
        exact q2
    case newarray t =>
      simp only [mm_ok, Bool.and_eq_true] at hok
      obtain ⟨hd, hn, hty, hwd⟩ := hok
      have hty := of_decide_eq_true hty
      subst hty
      obtain ⟨n, r, rfl, z1, z2, z3, z4, hz⟩ := mm_i1_inv hq
      refine mm_newi hx hb (hts _ (mm_wd_in hwd)) hT.1 hR hS z1 z2 (by omega) (by omega) (by omega) (dcT hd) (fun H1 hR1 hS1 => ?_)
      exact hz p e R s m args below meth c H1 locs _ _ mc ms sl Z hC hRt hR1 hS1 hL (by show cells + 1 + (al.1 - 1) ≤ mc; omega) (by show slots + n.toNatClampNeg + (al.2 - n.toNatClampNeg) ≤ ms; omega) h3 h4 _ (nxT hn)
    case anewarray k =>
      simp only [mm_ok, Bool.and_eq_true, Bool.or_eq_true] at hok
      obtain ⟨hd, hn, hcl⟩ := hok
      obtain ⟨n, r, rfl, z1, z2, z3, z4, hz⟩ := mm_i1_inv hq
      have key : ∃ r : vw_C, (a = 1 ∨ a = 3) ∧ mm_cls[a]? = some r ∧ (Cond.classLink (mm_ow μ) k r.1).before args s = true ∧ va_AO r.1 s := by
        rcases hcl with ⟨e1, e2⟩ | ⟨e1, e2⟩
        · have e1 := Nat.eq_of_beq_eq_true e1
          subst e1
          exact ⟨_, Or.inl rfl, rfl, hts _ (mm_wd_in e2), hT.2.2.1⟩
        · have e1 := Nat.eq_of_beq_eq_true e1
          subst e1
          exact ⟨_, Or.inr rfl, rfl, hts _ (mm_wd_in e2), hT.2.2.2.1⟩
      obtain ⟨rc, ka, kb, kc, kd⟩ := key
      refine mm_newr hx hb hown ka kb kc kd hT.1 hR hS z1 z2 (by omega) (by omega) (by omega) (dcT hd) (fun H1 hR1 hS1 => ?_)
      exact hz p e R s m args below meth c H1 locs _ _ mc ms sl Z hC hRt hR1 hS1 hL (by show cells + 1 + (al.1 - 1) ≤ mc; omega) (by show slots + n.toNatClampNeg + (al.2 - n.toNatClampNeg) ≤ ms; omega) h3 h4 _ (nxT hn)
    case new k =>
      simp only [mm_ok, Bool.and_eq_true] at hok
      obtain ⟨hd, hn, hkl⟩ := hok
      obtain ⟨C, T, N, hcl, hw⟩ := mm_kl_inv hkl
      simp only [Bool.and_eq_true] at hw
      obtain ⟨w1, w2, w3, w4⟩ := hw
      have w4 : (mm_def a).length = N := of_decide_eq_true w4
      obtain ⟨z1, z2, z3, hz⟩ := hq
      refine mm_new hx hb hts hown hT.1 hR hS hcl (hts _ (mm_wd_in w1)) (hts _ (mm_wd_in w2)) (hts _ (mm_wd_in w3)) z1 (by omega) (by omega) (dcT hd) (fun H1 hR1 hS1 => ?_)
      exact hz p e R s m args below meth c H1 locs _ _ mc ms sl Z hC hRt hR1 hS1 hL (by show cells + 1 + (al.1 - 1) ≤ mc; omega) (by show slots + N + (al.2 - (mm_def a).length) ≤ ms; omega) h3 h4 _ (nxT hn)
    case getfield k =>
      simp only [mm_ok, Bool.and_eq_true] at hok
      obtain ⟨hd, hn, hkl⟩ := hok
      obtain ⟨C, T, N, hcl, hw⟩ := mm_kl_inv hkl
      simp only [Bool.and_eq_true] at hw
      obtain ⟨w1, w2⟩ := hw
      have w1 : b < N := by simpa [Nat.blt_eq] using w1
      obtain ⟨o, r, rfl, hz⟩ := mm_r1_inv hq
      obtain ⟨fs, eo, hz⟩ := mm_obj_inv hz
      obtain ⟨v, hv, hz⟩ := mm_ld_inv hz
      obtain ⟨ha7, hkn⟩ := mm_kn_of hcl
      obtain ⟨o2, o3, hws⟩ := hR.obj eo (by omega)
      refine va_get (D := gvD g) (ci := a) (C := C) (T := T) (N := N) (Ts := mm_gt) hx hb hts hkn.1 hown hT.1 hR.2.2.2.2.2 (o - 2) hws hcl b w1 (hts _ (mm_wd_in w2)) (fun _ z => z) (v := mm_tr g v) (by rw [List.getElem?_map, hv]; rfl) (dcT hd) ?_
      exact hgo hz hL (nxT hn)
    case putfield k =>
      simp only [mm_ok, Bool.and_eq_true] at hok
      obtain ⟨hd, hn, hkl⟩ := hok
      obtain ⟨C, T, N, hcl, hw⟩ := mm_kl_inv hkl
      simp only [Bool.and_eq_true, Bool.or_eq_true] at hw
      obtain ⟨w1, w2, w3, w4⟩ := hw
      have w1 : b < N := by simpa [Nat.blt_eq] using w1
      obtain ⟨v, o, r, rfl, hz⟩ := mm_vr_inv hq
      obtain ⟨fs, eo, hz⟩ := mm_obj_inv hz
      obtain ⟨dv, hdv, hz⟩ := mm_ld_inv hz
      obtain ⟨hfit, hz⟩ := mm_b1_inv hz
      obtain ⟨hl, hz⟩ := mm_set_inv hz
      rw [hdv] at w3
      have hfin : (T b).2.2.2 = false ∨ ((T b).2.2.2 = true ∧ meth.name = "<init>" ∧ (T b).1 = mm_ow μ) := by
        cases hf : (T b).2.2.2 with
        | false => exact Or.inl rfl
        | true =>
          rw [hf] at w4
          rcases w4 with w4 | ⟨w4, w5⟩
          · cases w4
          · exact Or.inr ⟨rfl, hin w4, of_decide_eq_true w5⟩
      refine mm_put hx hb hts hown hT.1 hR hS hcl w1 (hts _ (mm_wd_in w2)) w3 hfin eo hfit hl (dcT hd) (fun H1 locs1 hR1 hS1 => ?_)
      exact hz p e R s m args below meth c H1 locs1 _ _ mc ms sl Z hC hRt hR1 hS1 hL h1 h2 h3 h4 _ (nxT hn)
    case iaload =>
      simp only [mm_ok, Bool.and_eq_true] at hok
      obtain ⟨hd, hn⟩ := hok
      obtain ⟨i, o, r, rfl, hz⟩ := mm_ir_inv hq
      obtain ⟨n, f, eo, hi, hz⟩ := mm_arr_inv hz
      rcases eo with eo | eo
      · obtain ⟨o2, o3, hws⟩ := hR.ints eo
        refine va_iald (D := gvD g) hx hb hT.1 hR.2.2.2.2.2 (o - 2) 0 hws rfl hi (dcT hd) ?_
        exact hgo hz hL (nxT hn)
      · have nb : ¬ mm_A g (gvb g) := Nat.not_le.mpr hT.2.2.2.2.2.2.2.2.1
        have nt : ¬ mm_A g (gvt g) := Nat.not_le.mpr hT.2.2.2.2.2.2.2.1
        have hz9 := hT.2.2.2.2.2.2.2.2.2
        have hb9 := hT.2.2.2.2.2.2.2.2.1
        have ht9 := hT.2.2.2.2.2.2.2.1
        rcases hR.ext eo with ⟨rfl, rfl, rfl⟩ | ⟨rfl, rfl, rfl⟩
        · refine va_sld hx hb hT.2.2.2.2.2.2.1 (Nat.lt_of_lt_of_le hb9 hz9) nb hS hi (dcT hd) ?_
          exact hgo hz hL (nxT hn)
        · refine va_ti hx hb hT.2.2.2.2.2.1 hS hi rfl (dcT hd) ?_
          exact hgo hz hL (nxT hn)
    case iastore =>
      simp only [mm_ok, Bool.and_eq_true] at hok
      obtain ⟨hd, hn⟩ := hok
      obtain ⟨x, i, o, r, rfl, hz⟩ := mm_iir_inv hq
      obtain ⟨n, f, eo, hi, hz⟩ := mm_arw_inv hz
      refine mm_iast hx hb hT.1 hR hS eo hi (dcT hd) (fun H1 locs1 hR1 hS1 => ?_)
      exact hz p e R s m args below meth c H1 locs1 _ _ mc ms sl Z hC hRt hR1 hS1 hL h1 h2 h3 h4 _ (nxT hn)
    case aaload =>
      simp only [mm_ok, Bool.and_eq_true] at hok
      obtain ⟨hd, hn⟩ := hok
      obtain ⟨i, o, r, rfl, hz⟩ := mm_ir_inv hq
      obtain ⟨cc, n, f, eo, hi, k, hk, hz⟩ := mm_rar_inv hz
      obtain ⟨o2, o3, hci, hws⟩ := hR.refs eo
      obtain ⟨t0, rc, hc, ht⟩ := mm_ca_ty (g := g) hci
      refine va_aldq (D := gvD g) hx hb hT.1 hR.2.2.2.2.2 (o - 2) t0 hws ht hi (dcT hd) ?_
      rw [hk]
      exact hgo hz hL (nxT hn)
    case aastore =>
      simp only [mm_ok, Bool.and_eq_true] at hok
      obtain ⟨hd, hn⟩ := hok
      obtain ⟨v, i, o, r, rfl, hz⟩ := mm_rir_inv hq
      obtain ⟨cc, n, f, eo, hi, hz⟩ := mm_rar_inv hz
      obtain ⟨fs, ev, hz⟩ := mm_obj_inv hz
      refine mm_aast hx hb hT.1 hR hS eo ev hi (dcT hd) (fun H1 locs1 hR1 hS1 => ?_)
      exact hz p e R s m args below meth c H1 locs1 _ _ mc ms sl Z hC hRt hR1 hS1 hL h1 h2 h3 h4 _ (nxT hn)
    case arraylength =>
      simp only [mm_ok, Bool.and_eq_true] at hok
      obtain ⟨hd, hn⟩ := hok
      obtain ⟨o, r, rfl, hz⟩ := mm_r1_inv hq
      unfold mm_alen at hz
      split at hz
      · rename_i n f eo
        obtain ⟨o2, o3, hws⟩ := hR.ints (o := o) (n := n) (f := f) eo
        refine va_alen (D := gvD g) hx hb hT.1 hR.2.2.2.2.2 (o - 2) 0 hws (ty := .int) rfl rfl (dcT hd) ?_
        exact hgo hz hL (nxT hn)
      · rename_i n f eo
        have nb : ¬ mm_A g (gvb g) := Nat.not_le.mpr hT.2.2.2.2.2.2.2.2.1
        have nt : ¬ mm_A g (gvt g) := Nat.not_le.mpr hT.2.2.2.2.2.2.2.1
        have hz9 := hT.2.2.2.2.2.2.2.2.2
        have hb9 := hT.2.2.2.2.2.2.2.2.1
        have ht9 := hT.2.2.2.2.2.2.2.1
        rcases hR.ext (o := o) (n := n) (f := f) eo with ⟨rfl, rfl, rfl⟩ | ⟨rfl, rfl, rfl⟩
        · refine va_slen hx hb hT.2.2.2.2.2.2.1 (Nat.lt_of_lt_of_le hb9 hz9) nb hS (dcT hd) ?_
          exact hgo hz hL (nxT hn)
        · refine va_tlen hx hb hT.2.2.2.2.2.1 hS rfl (dcT hd) ?_
          exact hgo hz hL (nxT hn)
      · rename_i ci n f eo
        obtain ⟨o2, o3, hci, hws⟩ := hR.refs (o := o) (ci := ci) (n := n) (f := f) eo
        obtain ⟨t0, rc, hc, ht⟩ := mm_ca_ty (g := g) hci
        refine va_alen (D := gvD g) hx hb hT.1 hR.2.2.2.2.2 (o - 2) t0 hws ht rfl (dcT hd) ?_
        exact hgo hz hL (nxT hn)
      · exact hz.elim
    case ireturn =>
      simp only [mm_ok, Bool.and_eq_true, Bool.or_eq_true] at hok
      obtain ⟨hd, hrt⟩ := hok
      unfold mm_stepI at hq
      dsimp only at hq
      split at hq
      · rename_i x
        rcases hrt with hrt | hrt
        · have hrt : mm_rt μ = some .int := of_decide_eq_true hrt
          rw [hrt] at hq
          exact hRt H locs cells slots pc' sl (some (.int x)) h .ireturn hq hR hS (by omega) (by omega) (dcT hd) (Or.inl ⟨rfl, x, rfl, Or.inl hrt⟩)
        · have hrt : mm_rt μ = some .boolean := of_decide_eq_true hrt
          rw [hrt] at hq
          exact hRt H locs cells slots pc' sl (some (.int x)) h .ireturn hq.2 hR hS (by omega) (by omega) (dcT hd) (Or.inl ⟨rfl, x, rfl, Or.inr ⟨hrt, hq.1⟩⟩)
      · exact hq.elim
    case lreturn =>
      simp only [mm_ok, Bool.and_eq_true] at hok
      obtain ⟨hd, hrt⟩ := hok
      have hrt : mm_rt μ = some .long := of_decide_eq_true hrt
      unfold mm_stepI at hq
      dsimp only at hq
      split at hq
      · rename_i x
        exact hRt H locs cells slots pc' sl (some (.long x)) h .lreturn hq hR hS (by omega) (by omega) (dcT hd) (Or.inr (Or.inl ⟨rfl, hrt, x, rfl⟩))
      · exact hq.elim
    case return_ =>
      simp only [mm_ok, Bool.and_eq_true] at hok
      obtain ⟨hd, hrt⟩ := hok
      have hrt : mm_rt μ = none := of_decide_eq_true hrt
      unfold mm_stepI at hq
      dsimp only at hq
      split at hq
      · exact hRt H locs cells slots pc' sl none h .return_ hq hR hS (by omega) (by omega) (dcT hd) (Or.inr (Or.inr ⟨rfl, hrt, rfl⟩))
      · exact hq.elim
    case invokestatic k =>
      simp only [mm_ok, Bool.and_eq_true] at hok
      obtain ⟨hd, hn, hok⟩ := hok
      have hq : mm_bb (Nat.beq a 1001) _ _ := hq
      cases hba : Nat.beq a 1001 with
      | true =>
        rw [hba] at hq hok
        simp only [cond_true, Bool.and_eq_true] at hok
        obtain ⟨w1, w2, w3, w4⟩ := hok
        obtain ⟨n, dp, o1, sp, o0, r, rfl, hz⟩ := mm_iirir_inv hq
        obtain ⟨hfew, hz⟩ := mm_few_inv hz
        obtain ⟨d', rfl, hz⟩ := mm_dd_inv hz
        obtain ⟨n0, f, e0, hz⟩ := mm_arw_inv hz
        obtain ⟨n1, f1, e1, hful, ⟨c1, c2, c3, c4, c5⟩, hz⟩ := mm_arw_inv hz
        obtain ⟨o02, o03, hw0⟩ := hR.ints e0
        obtain ⟨o12, o13, hw1⟩ := hR.ints e1
        have hcat := mm_cats r hfew g
        refine va_copyi (D := gvD g) hx hb (by rw [hml, hL.1]) hown (hts _ (mm_wd_in w1)) (hts _ (mm_wd_in w2)) (hts _ (mm_wd_in w3)) (hts _ (mm_wd_in w4)) hT.1 hR.2.2.2.2.2 (mm_ws_D g h) hS (o0 - 2) (o1 - 2) 0 0 hw0 hw1 (ty := .int) rfl rfl rfl c1 c2 c3 c4 c5 (fun _ _ => rfl) (by omega) ?_ (dcT hd) (fun H1 locs1 hP1 hD1 hS1 => ?_)
        · have : nativeFrameWords "java/lang/System" "arraycopy" 5 = 7 := by decide
          rw [this]
          omega
        · exact hz p e R s m args below meth c H1 locs1 _ _ mc ms sl Z hC hRt (hR.put o12 o13 (fun q => absurd q (by omega)) hP1) hS1 hL h1 h2 h3 h4 _ (nxT hn)
      | false =>
        rw [hba] at hq hok
        simp only [cond_false] at hok
        have hq : mm_bb (Nat.beq a 1002) _ _ := hq
        cases hb2 : Nat.beq a 1002 with
        | true =>
          rw [hb2] at hq hok
          simp only [cond_true, Bool.and_eq_true] at hok
          obtain ⟨w1, w2, w3, w4⟩ := hok
          obtain ⟨y, x, r, rfl, hz⟩ := mm_i2_inv hq
          obtain ⟨hfew, hz⟩ := mm_few_inv hz
          obtain ⟨d', rfl, hz⟩ := mm_dd_inv hz
          have hcat := mm_cats r hfew g
          refine va_mmax hx hb (by rw [hml, hL.1]) hown (hts _ (mm_wd_in w1)) (hts _ (mm_wd_in w2)) (hts _ (mm_wd_in w3)) (hts _ (mm_wd_in w4)) (by omega) (by omega) (by omega) (by omega) (dcT hd) ?_
          exact hgo hz hL (nxT hn)
        | false =>
          rw [hb2] at hq hok
          simp only [cond_false] at hok
          have hq : mm_bb (Nat.beq a 1003) _ _ := hq
          cases hb3 : Nat.beq a 1003 with
          | true =>
            rw [hb3] at hq hok
            simp only [cond_true, Bool.and_eq_true] at hok
            obtain ⟨w1, w2, w3, w4⟩ := hok
            obtain ⟨y, x, r, rfl, hz⟩ := mm_i2_inv hq
            obtain ⟨hfew, hz⟩ := mm_few_inv hz
            obtain ⟨d', rfl, hz⟩ := mm_dd_inv hz
            have hcat := mm_cats r hfew g
            refine va_mmin hx hb (by rw [hml, hL.1]) hown (hts _ (mm_wd_in w1)) (hts _ (mm_wd_in w2)) (hts _ (mm_wd_in w3)) (hts _ (mm_wd_in w4)) (by omega) (by omega) (by omega) (by omega) (dcT hd) ?_
            exact hgo hz hL (nxT hn)
          | false =>
            rw [hb3] at hq hok
            simp only [cond_false, Bool.and_eq_true] at hok
            obtain ⟨hcal, w1⟩ := hok
            obtain ⟨ha, hlk, hpar⟩ := mm_cal_inv hcal
            have hm := hmth a ha
            obtain ⟨m1, m2, m3, m4, m5, m6, m7, m8⟩ := mm_mth_inv hm
            obtain ⟨as, rest, hlen, rfl, hz⟩ := mm_pop_inv hq
            rw [List.append_nil] at hz
            refine mm_inv_W hz ha hm hC hRt hR hS hL h1 h2 h3 h4 (nxT hn) (fun d' K hdd hfew hM hroom hcs => ?_)
            rw [mm_map_rev]
            rcases hlk with hlk | hlk
            · exact ⟨_, va_runS (As := as.map (mm_tr g)) ⟨hx, hb, hml, hown, hts⟩ hM ⟨callB_of b hts (mm_wsm_good hm) rfl rfl rfl (hts _ m1) (hts _ hlk) ⟨m5, m6, hpar⟩ hroom, hts _ (mm_wd_in w1)⟩ ⟨mm_Pc_blind g h as, mm_Pc_at hT hS hR⟩ rfl (by rw [List.length_map]; exact hlen) hL.1 rfl (mm_rest_W hfew) (dcT hd) hcs⟩
            · exact ⟨_, va_runSN (As := as.map (mm_tr g)) ⟨hx, hb, hml, hown, hts⟩ hM ⟨va_cnB b hts (mm_wsm_good hm) rfl rfl rfl (hT.2.1 _ hlk rfl) (hts _ m1) ⟨m5, m6, hpar⟩ hroom, hts _ (mm_wd_in w1), trivial⟩ ⟨mm_Pc_blind g h as, mm_Pc_at hT hS hR⟩ rfl (by rw [List.length_map]; exact hlen) hL.1 rfl (mm_rest_W hfew) (dcT hd) hcs⟩
    case invokevirtual k =>
      simp only [mm_ok, Bool.and_eq_true] at hok
      obtain ⟨hd, hn, hb1, hcal, w1, w2, w3⟩ := hok
      have hb1 : 1 ≤ b := of_decide_eq_true hb1
      obtain ⟨C, T, N, hcl, hC9⟩ := mm_kl_inv w3
      have hC9 : C = (mm_y a).cls := of_decide_eq_true hC9
      obtain ⟨ha, hlk, hpar⟩ := mm_cal_inv hcal
      have hm := hmth a ha
      obtain ⟨m1, m2, m3, m4, m5, m6, m7, m8⟩ := mm_mth_inv hm
      obtain ⟨as, rest, hlen, rfl, hz⟩ := mm_pop_inv hq
      rw [List.append_nil] at hz
      obtain ⟨o, as', rfl, hz⟩ := mm_r1_inv hz
      obtain ⟨fs, eo, hz⟩ := mm_obj_inv hz
      obtain ⟨ha7, hkn⟩ := mm_kn_of hcl
      obtain ⟨o2, o3, hws⟩ := hR.obj eo (by omega)
      have hrecv := va_recv hT.1 hR.2.2.2.2.2 hcl hws
      have hlen' : as'.length = b - 1 := by simp at hlen; omega
      refine mm_inv_W hz ha hm hC hRt hR hS hL h1 h2 h3 h4 (nxT hn) (fun d' K hdd hfew hM hroom hcs => ?_)
      have hst : ((Value.ref o :: as').reverse ++ rest).map (mm_tr g) = (as'.map (mm_tr g)).reverse ++ .ref (mm_ad g o) :: rest.map (mm_tr g) := by simp [mm_tr]
      rw [hst]
      rcases hlk with hlk | hlk
      · exact ⟨_, va_runV (As := as'.map (mm_tr g)) (b := mm_ad g o) (C := (mm_y a).cls) ⟨hx, hb, hml, hown, hts⟩ hM ⟨callB_of (b - 1) hts (mm_wsm_good hm) rfl rfl rfl (hts _ m1) (hts _ hlk) ⟨m5, m6, hpar⟩ hroom, hts _ (mm_wd_in w1), hts _ (mm_wd_in w2)⟩ ⟨mm_Pc_blind g h _, by rw [← hC9]; exact hrecv, mm_Pc_at hT hS hR⟩ rfl (by rw [List.length_map]; exact hlen') hL.1 rfl (mm_rest_W hfew) (dcT hd) hcs⟩
      · exact ⟨_, va_runVN (As := as'.map (mm_tr g)) (b := mm_ad g o) (C := (mm_y a).cls) ⟨hx, hb, hml, hown, hts⟩ hM ⟨va_cnB (b - 1) hts (mm_wsm_good hm) rfl rfl rfl (hT.2.1 _ hlk rfl) (hts _ m1) ⟨m5, m6, hpar⟩ hroom, hts _ (mm_wd_in w1), hts _ (mm_wd_in w2)⟩ ⟨mm_Pc_blind g h _, by rw [← hC9]; exact hrecv, mm_Pc_at hT hS hR⟩ rfl (by rw [List.length_map]; exact hlen') hL.1 rfl (mm_rest_W hfew) (dcT hd) hcs⟩
    case invokespecial k =>
      simp only [mm_ok, Bool.and_eq_true] at hok
      obtain ⟨hd, hn, hok⟩ := hok
      have hq : mm_bb (Nat.beq a 1000) _ _ := hq
      cases hba : Nat.beq a 1000 with
      | true =>
        rw [hba] at hq hok
        simp only [cond_true, Bool.and_eq_true] at hok
        obtain ⟨w1, w2, w3⟩ := hok
        obtain ⟨o, r, rfl, hz⟩ := mm_r1_inv hq
        obtain ⟨hfew, hz⟩ := mm_few_inv hz
        obtain ⟨d', rfl, hz⟩ := mm_dd_inv hz
        have hcat := mm_cats r hfew g
        refine W.objInit hx hb hown (hts _ (mm_wd_in w1)) (hts _ (mm_wd_in w2)) (hts _ (mm_wd_in w3)) rfl (by rw [hml]; exact hL.1) (rest := r.map (mm_tr g)) rfl (dcT hd) (by omega) (by show 2 * 0 + _ + 12 ≤ _; omega) ?_
        exact hgo hz hL (nxT hn)
      | false =>
        rw [hba] at hq hok
        simp only [cond_false, Bool.and_eq_true] at hok
        obtain ⟨hb1, hcal, w1, w2, w3⟩ := hok
        have hb1 : 1 ≤ b := of_decide_eq_true hb1
        have w2 : (mm_y a).name = "<init>" := of_decide_eq_true w2
        have w3 : mm_rt a = none := of_decide_eq_true w3
        obtain ⟨ha, hlk, hpar⟩ := mm_cal_inv hcal
        have hm := hmth a ha
        obtain ⟨m1, m2, m3, m4, m5, m6, m7, m8⟩ := mm_mth_inv hm
        obtain ⟨as, rest, hlen, rfl, hz⟩ := mm_pop_inv hq
        rw [List.append_nil] at hz
        obtain ⟨o, as', rfl, hz⟩ := mm_r1_inv hz
        have hlen' : as'.length = b - 1 := by simp at hlen; omega
        have hws9 : mm_wsm a = Cond.code (mm_y a) (mm_by a) (mm_ml a) none :: mm_gt := by unfold mm_wsm; rw [w3]
        refine mm_inv_W hz ha hm hC hRt hR hS hL h1 h2 h3 h4 (nxT hn) (fun d' K hdd hfew hM hroom hcs => ?_)
        have hst : ((Value.ref o :: as').reverse ++ rest).map (mm_tr g) = (as'.map (mm_tr g)).reverse ++ .ref (mm_ad g o) :: rest.map (mm_tr g) := by simp [mm_tr]
        rw [hst]
        rcases hlk with hlk | hlk
        · exact ⟨_, va_runI (As := as'.map (mm_tr g)) (b := mm_ad g o) (bytes := mm_by a) (maxL := mm_ml a) ⟨hx, hb, hml, hown, hts⟩ hM ⟨callB_of (b - 1) hts (mm_wsm_good hm) hws9 rfl rfl (hts _ m1) (hts _ hlk) ⟨m5, m6, hpar⟩ hroom, w2, hts _ (mm_wd_in w1)⟩ ⟨mm_Pc_blind g h _, mm_Pc_at hT hS hR⟩ rfl (by rw [List.length_map]; exact hlen') hL.1 rfl (mm_rest_W hfew) (dcT hd) hcs⟩
        · exact ⟨_, va_runIN (As := as'.map (mm_tr g)) (b := mm_ad g o) (bytes := mm_by a) (maxL := mm_ml a) ⟨hx, hb, hml, hown, hts⟩ hM ⟨va_cnB (b - 1) hts (mm_wsm_good hm) hws9 rfl rfl (hT.2.1 _ hlk rfl) (hts _ m1) ⟨m5, m6, hpar⟩ hroom, w2, hts _ (mm_wd_in w1)⟩ ⟨mm_Pc_blind g h _, mm_Pc_at hT hS hR⟩ rfl (by rw [List.length_map]; exact hlen') hL.1 rfl (mm_rest_W hfew) (dcT hd) hcs⟩
    all_goals exact hq.elim
/-- what the mini machine comes to, the real one comes to -/
theorem mm_sound (l : Launch) (g : mm_G) (hall : ∀ μ, μ < mm_cnt → ∀ ip q, mm_at μ ip = some q → mm_ok μ q = true) (hmth : ∀ a, a < 209 → mm_mth a = true) {d μ ip : Nat} {al : Nat × Nat} {ls st : List Value} {h : mm_H} {Q : mm_K} (q : mm_Ex d μ ip al ls st h Q) : mm_Re l g d μ ip al ls st h Q :=
  q (mm_Re l g) (mm_Re_mono l g) (mm_closed l g hall hmth)
end
section
theorem ok_m0 : ((List.range 20).drop 0).all mm_mth = true := by decide +kernel
theorem ok_m1 : ((List.range 40).drop 20).all mm_mth = true := by decide +kernel
theorem ok_m2 : ((List.range 60).drop 40).all mm_mth = true := by decide +kernel
theorem ok_m3 : ((List.range 80).drop 60).all mm_mth = true := by decide +kernel
theorem ok_m4 : ((List.range 100).drop 80).all mm_mth = true := by decide +kernel
theorem ok_m5 : ((List.range 120).drop 100).all mm_mth = true := by decide +kernel
theorem ok_m6 : ((List.range 140).drop 120).all mm_mth = true := by decide +kernel
theorem ok_m7 : ((List.range 160).drop 140).all mm_mth = true := by decide +kernel
theorem ok_m8 : ((List.range 180).drop 160).all mm_mth = true := by decide +kernel
theorem ok_m9 : ((List.range 200).drop 180).all mm_mth = true := by decide +kernel
theorem ok_m10 : ((List.range 209).drop 200).all mm_mth = true := by decide +kernel
theorem ok_X0_init_0 : q_X0_init_0.all (mm_ok 0) = true := by decide +kernel
theorem ok_X0_init_1 : q_X0_init_1.all (mm_ok 0) = true := by decide +kernel
theorem ok_X0_init : ∀ c ∈ q_X0_init, c.all (mm_ok 0) = true := by
  intro c hc
  simp only [q_X0_init, List.mem_cons, List.not_mem_nil, or_false] at hc
  rcases hc with rfl | rfl
  · exact ok_X0_init_0
  · exact ok_X0_init_1
theorem ok_X0_seat_0 : q_X0_seat_0.all (mm_ok 1) = true := by decide +kernel
theorem ok_X0_seat_1 : q_X0_seat_1.all (mm_ok 1) = true := by decide +kernel
theorem ok_X0_seat_2 : q_X0_seat_2.all (mm_ok 1) = true := by decide +kernel
theorem ok_X0_seat_3 : q_X0_seat_3.all (mm_ok 1) = true := by decide +kernel
theorem ok_X0_seat : ∀ c ∈ q_X0_seat, c.all (mm_ok 1) = true := by
  intro c hc
  simp only [q_X0_seat, List.mem_cons, List.not_mem_nil, or_false] at hc
  rcases hc with rfl | rfl | rfl | rfl
  · exact ok_X0_seat_0
  · exact ok_X0_seat_1
  · exact ok_X0_seat_2
  · exact ok_X0_seat_3
theorem ok_X0_forgetCitation_0 : q_X0_forgetCitation_0.all (mm_ok 2) = true := by decide +kernel
theorem ok_X0_forgetCitation_1 : q_X0_forgetCitation_1.all (mm_ok 2) = true := by decide +kernel
theorem ok_X0_forgetCitation : ∀ c ∈ q_X0_forgetCitation, c.all (mm_ok 2) = true := by
  intro c hc
  simp only [q_X0_forgetCitation, List.mem_cons, List.not_mem_nil, or_false] at hc
  rcases hc with rfl | rfl
  · exact ok_X0_forgetCitation_0
  · exact ok_X0_forgetCitation_1
theorem ok_X0_isMovedByOneMore_0 : q_X0_isMovedByOneMore_0.all (mm_ok 3) = true := by decide +kernel
theorem ok_X0_isMovedByOneMore : ∀ c ∈ q_X0_isMovedByOneMore, c.all (mm_ok 3) = true := by
  intro c hc
  simp only [q_X0_isMovedByOneMore, List.mem_cons, List.not_mem_nil, or_false] at hc
  subst hc
  · exact ok_X0_isMovedByOneMore_0
theorem ok_X0_isToStand_0 : q_X0_isToStand_0.all (mm_ok 4) = true := by decide +kernel
theorem ok_X0_isToStand_1 : q_X0_isToStand_1.all (mm_ok 4) = true := by decide +kernel
theorem ok_X0_isToStand_2 : q_X0_isToStand_2.all (mm_ok 4) = true := by decide +kernel
theorem ok_X0_isToStand : ∀ c ∈ q_X0_isToStand, c.all (mm_ok 4) = true := by
  intro c hc
  simp only [q_X0_isToStand, List.mem_cons, List.not_mem_nil, or_false] at hc
  rcases hc with rfl | rfl | rfl
  · exact ok_X0_isToStand_0
  · exact ok_X0_isToStand_1
  · exact ok_X0_isToStand_2
theorem ok_X0_clash_0 : q_X0_clash_0.all (mm_ok 5) = true := by decide +kernel
theorem ok_X0_clash : ∀ c ∈ q_X0_clash, c.all (mm_ok 5) = true := by
  intro c hc
  simp only [q_X0_clash, List.mem_cons, List.not_mem_nil, or_false] at hc
  subst hc
  · exact ok_X0_clash_0
theorem ok_X0_mattersTo_0 : q_X0_mattersTo_0.all (mm_ok 6) = true := by decide +kernel
theorem ok_X0_mattersTo_1 : q_X0_mattersTo_1.all (mm_ok 6) = true := by decide +kernel
theorem ok_X0_mattersTo : ∀ c ∈ q_X0_mattersTo, c.all (mm_ok 6) = true := by
  intro c hc
  simp only [q_X0_mattersTo, List.mem_cons, List.not_mem_nil, or_false] at hc
  rcases hc with rfl | rfl
  · exact ok_X0_mattersTo_0
  · exact ok_X0_mattersTo_1
theorem ok_X1_init_0 : q_X1_init_0.all (mm_ok 7) = true := by decide +kernel
theorem ok_X1_init : ∀ c ∈ q_X1_init, c.all (mm_ok 7) = true := by
  intro c hc
  simp only [q_X1_init, List.mem_cons, List.not_mem_nil, or_false] at hc
  subst hc
  · exact ok_X1_init_0
theorem ok_X1_has_0 : q_X1_has_0.all (mm_ok 8) = true := by decide +kernel
theorem ok_X1_has : ∀ c ∈ q_X1_has, c.all (mm_ok 8) = true := by
  intro c hc
  simp only [q_X1_has, List.mem_cons, List.not_mem_nil, or_false] at hc
  subst hc
  · exact ok_X1_has_0
theorem ok_X1_everyRuling_0 : q_X1_everyRuling_0.all (mm_ok 9) = true := by decide +kernel
theorem ok_X1_everyRuling : ∀ c ∈ q_X1_everyRuling, c.all (mm_ok 9) = true := by
  intro c hc
  simp only [q_X1_everyRuling, List.mem_cons, List.not_mem_nil, or_false] at hc
  subst hc
  · exact ok_X1_everyRuling_0
theorem ok_X1_canBeCited_0 : q_X1_canBeCited_0.all (mm_ok 10) = true := by decide +kernel
theorem ok_X1_canBeCited : ∀ c ∈ q_X1_canBeCited, c.all (mm_ok 10) = true := by
  intro c hc
  simp only [q_X1_canBeCited, List.mem_cons, List.not_mem_nil, or_false] at hc
  subst hc
  · exact ok_X1_canBeCited_0
theorem ok_X1_citable_0 : q_X1_citable_0.all (mm_ok 11) = true := by decide +kernel
theorem ok_X1_citable : ∀ c ∈ q_X1_citable, c.all (mm_ok 11) = true := by
  intro c hc
  simp only [q_X1_citable, List.mem_cons, List.not_mem_nil, or_false] at hc
  subst hc
  · exact ok_X1_citable_0
theorem ok_X1_add_0 : q_X1_add_0.all (mm_ok 12) = true := by decide +kernel
theorem ok_X1_add_1 : q_X1_add_1.all (mm_ok 12) = true := by decide +kernel
theorem ok_X1_add : ∀ c ∈ q_X1_add, c.all (mm_ok 12) = true := by
  intro c hc
  simp only [q_X1_add, List.mem_cons, List.not_mem_nil, or_false] at hc
  rcases hc with rfl | rfl
  · exact ok_X1_add_0
  · exact ok_X1_add_1
theorem ok_X1_cutTo_0 : q_X1_cutTo_0.all (mm_ok 13) = true := by decide +kernel
theorem ok_X1_cutTo : ∀ c ∈ q_X1_cutTo, c.all (mm_ok 13) = true := by
  intro c hc
  simp only [q_X1_cutTo, List.mem_cons, List.not_mem_nil, or_false] at hc
  subst hc
  · exact ok_X1_cutTo_0
theorem ok_X1_become_0 : q_X1_become_0.all (mm_ok 14) = true := by decide +kernel
theorem ok_X1_become_1 : q_X1_become_1.all (mm_ok 14) = true := by decide +kernel
theorem ok_X1_become : ∀ c ∈ q_X1_become, c.all (mm_ok 14) = true := by
  intro c hc
  simp only [q_X1_become, List.mem_cons, List.not_mem_nil, or_false] at hc
  rcases hc with rfl | rfl
  · exact ok_X1_become_0
  · exact ok_X1_become_1
theorem ok_X1_detail_0 : q_X1_detail_0.all (mm_ok 15) = true := by decide +kernel
theorem ok_X1_detail_1 : q_X1_detail_1.all (mm_ok 15) = true := by decide +kernel
theorem ok_X1_detail : ∀ c ∈ q_X1_detail, c.all (mm_ok 15) = true := by
  intro c hc
  simp only [q_X1_detail, List.mem_cons, List.not_mem_nil, or_false] at hc
  rcases hc with rfl | rfl
  · exact ok_X1_detail_0
  · exact ok_X1_detail_1
theorem ok_X1_citations_0 : q_X1_citations_0.all (mm_ok 16) = true := by decide +kernel
theorem ok_X1_citations : ∀ c ∈ q_X1_citations, c.all (mm_ok 16) = true := by
  intro c hc
  simp only [q_X1_citations, List.mem_cons, List.not_mem_nil, or_false] at hc
  subst hc
  · exact ok_X1_citations_0
theorem ok_X1_dependsOn_0 : q_X1_dependsOn_0.all (mm_ok 17) = true := by decide +kernel
theorem ok_X1_dependsOn : ∀ c ∈ q_X1_dependsOn, c.all (mm_ok 17) = true := by
  intro c hc
  simp only [q_X1_dependsOn, List.mem_cons, List.not_mem_nil, or_false] at hc
  subst hc
  · exact ok_X1_dependsOn_0
theorem ok_X1_ofDay_0 : q_X1_ofDay_0.all (mm_ok 18) = true := by decide +kernel
theorem ok_X1_ofDay : ∀ c ∈ q_X1_ofDay, c.all (mm_ok 18) = true := by
  intro c hc
  simp only [q_X1_ofDay, List.mem_cons, List.not_mem_nil, or_false] at hc
  subst hc
  · exact ok_X1_ofDay_0
theorem ok_X1_othersOfItsDay_0 : q_X1_othersOfItsDay_0.all (mm_ok 19) = true := by decide +kernel
theorem ok_X1_othersOfItsDay : ∀ c ∈ q_X1_othersOfItsDay, c.all (mm_ok 19) = true := by
  intro c hc
  simp only [q_X1_othersOfItsDay, List.mem_cons, List.not_mem_nil, or_false] at hc
  subst hc
  · exact ok_X1_othersOfItsDay_0
theorem ok_X1_laterThan_0 : q_X1_laterThan_0.all (mm_ok 20) = true := by decide +kernel
theorem ok_X1_laterThan : ∀ c ∈ q_X1_laterThan, c.all (mm_ok 20) = true := by
  intro c hc
  simp only [q_X1_laterThan, List.mem_cons, List.not_mem_nil, or_false] at hc
  subst hc
  · exact ok_X1_laterThan_0
theorem ok_X1_countOf_0 : q_X1_countOf_0.all (mm_ok 21) = true := by decide +kernel
theorem ok_X1_countOf_1 : q_X1_countOf_1.all (mm_ok 21) = true := by decide +kernel
theorem ok_X1_countOf : ∀ c ∈ q_X1_countOf, c.all (mm_ok 21) = true := by
  intro c hc
  simp only [q_X1_countOf, List.mem_cons, List.not_mem_nil, or_false] at hc
  rcases hc with rfl | rfl
  · exact ok_X1_countOf_0
  · exact ok_X1_countOf_1
theorem ok_X1_likeness_0 : q_X1_likeness_0.all (mm_ok 22) = true := by decide +kernel
theorem ok_X1_likeness : ∀ c ∈ q_X1_likeness, c.all (mm_ok 22) = true := by
  intro c hc
  simp only [q_X1_likeness, List.mem_cons, List.not_mem_nil, or_false] at hc
  subst hc
  · exact ok_X1_likeness_0
theorem ok_X1_decide_0 : q_X1_decide_0.all (mm_ok 23) = true := by decide +kernel
theorem ok_X1_decide_1 : q_X1_decide_1.all (mm_ok 23) = true := by decide +kernel
theorem ok_X1_decide : ∀ c ∈ q_X1_decide, c.all (mm_ok 23) = true := by
  intro c hc
  simp only [q_X1_decide, List.mem_cons, List.not_mem_nil, or_false] at hc
  rcases hc with rfl | rfl
  · exact ok_X1_decide_0
  · exact ok_X1_decide_1
theorem ok_X1_verdictsBy_0 : q_X1_verdictsBy_0.all (mm_ok 24) = true := by decide +kernel
theorem ok_X1_verdictsBy : ∀ c ∈ q_X1_verdictsBy, c.all (mm_ok 24) = true := by
  intro c hc
  simp only [q_X1_verdictsBy, List.mem_cons, List.not_mem_nil, or_false] at hc
  subst hc
  · exact ok_X1_verdictsBy_0
theorem ok_X1_agrees_0 : q_X1_agrees_0.all (mm_ok 25) = true := by decide +kernel
theorem ok_X1_agrees : ∀ c ∈ q_X1_agrees, c.all (mm_ok 25) = true := by
  intro c hc
  simp only [q_X1_agrees, List.mem_cons, List.not_mem_nil, or_false] at hc
  subst hc
  · exact ok_X1_agrees_0
theorem ok_X2_init_0 : q_X2_init_0.all (mm_ok 26) = true := by decide +kernel
theorem ok_X2_init : ∀ c ∈ q_X2_init, c.all (mm_ok 26) = true := by
  intro c hc
  simp only [q_X2_init, List.mem_cons, List.not_mem_nil, or_false] at hc
  subst hc
  · exact ok_X2_init_0
theorem ok_X2_read_0 : q_X2_read_0.all (mm_ok 27) = true := by decide +kernel
theorem ok_X2_read_1 : q_X2_read_1.all (mm_ok 27) = true := by decide +kernel
theorem ok_X2_read : ∀ c ∈ q_X2_read, c.all (mm_ok 27) = true := by
  intro c hc
  simp only [q_X2_read, List.mem_cons, List.not_mem_nil, or_false] at hc
  rcases hc with rfl | rfl
  · exact ok_X2_read_0
  · exact ok_X2_read_1
theorem ok_X2_skipBlanks_0 : q_X2_skipBlanks_0.all (mm_ok 28) = true := by decide +kernel
theorem ok_X2_skipBlanks : ∀ c ∈ q_X2_skipBlanks, c.all (mm_ok 28) = true := by
  intro c hc
  simp only [q_X2_skipBlanks, List.mem_cons, List.not_mem_nil, or_false] at hc
  subst hc
  · exact ok_X2_skipBlanks_0
theorem ok_X2_readItem_0 : q_X2_readItem_0.all (mm_ok 29) = true := by decide +kernel
theorem ok_X2_readItem_1 : q_X2_readItem_1.all (mm_ok 29) = true := by decide +kernel
theorem ok_X2_readItem_2 : q_X2_readItem_2.all (mm_ok 29) = true := by decide +kernel
theorem ok_X2_readItem_3 : q_X2_readItem_3.all (mm_ok 29) = true := by decide +kernel
theorem ok_X2_readItem : ∀ c ∈ q_X2_readItem, c.all (mm_ok 29) = true := by
  intro c hc
  simp only [q_X2_readItem, List.mem_cons, List.not_mem_nil, or_false] at hc
  rcases hc with rfl | rfl | rfl | rfl
  · exact ok_X2_readItem_0
  · exact ok_X2_readItem_1
  · exact ok_X2_readItem_2
  · exact ok_X2_readItem_3
theorem ok_X2_sign_0 : q_X2_sign_0.all (mm_ok 30) = true := by decide +kernel
theorem ok_X2_sign : ∀ c ∈ q_X2_sign, c.all (mm_ok 30) = true := by
  intro c hc
  simp only [q_X2_sign, List.mem_cons, List.not_mem_nil, or_false] at hc
  subst hc
  · exact ok_X2_sign_0
theorem ok_X2_letter_0 : q_X2_letter_0.all (mm_ok 31) = true := by decide +kernel
theorem ok_X2_letter : ∀ c ∈ q_X2_letter, c.all (mm_ok 31) = true := by
  intro c hc
  simp only [q_X2_letter, List.mem_cons, List.not_mem_nil, or_false] at hc
  subst hc
  · exact ok_X2_letter_0
theorem ok_X2_figure_0 : q_X2_figure_0.all (mm_ok 32) = true := by decide +kernel
theorem ok_X2_figure : ∀ c ∈ q_X2_figure, c.all (mm_ok 32) = true := by
  intro c hc
  simp only [q_X2_figure, List.mem_cons, List.not_mem_nil, or_false] at hc
  subst hc
  · exact ok_X2_figure_0
theorem ok_X2_readMarks_0 : q_X2_readMarks_0.all (mm_ok 33) = true := by decide +kernel
theorem ok_X2_readMarks : ∀ c ∈ q_X2_readMarks, c.all (mm_ok 33) = true := by
  intro c hc
  simp only [q_X2_readMarks, List.mem_cons, List.not_mem_nil, or_false] at hc
  subst hc
  · exact ok_X2_readMarks_0
theorem ok_X3_init_0 : q_X3_init_0.all (mm_ok 34) = true := by decide +kernel
theorem ok_X3_init : ∀ c ∈ q_X3_init, c.all (mm_ok 34) = true := by
  intro c hc
  simp only [q_X3_init, List.mem_cons, List.not_mem_nil, or_false] at hc
  subst hc
  · exact ok_X3_init_0
theorem ok_X3_isMissing_0 : q_X3_isMissing_0.all (mm_ok 35) = true := by decide +kernel
theorem ok_X3_isMissing : ∀ c ∈ q_X3_isMissing, c.all (mm_ok 35) = true := by
  intro c hc
  simp only [q_X3_isMissing, List.mem_cons, List.not_mem_nil, or_false] at hc
  subst hc
  · exact ok_X3_isMissing_0
theorem ok_X3_has_0 : q_X3_has_0.all (mm_ok 36) = true := by decide +kernel
theorem ok_X3_has : ∀ c ∈ q_X3_has, c.all (mm_ok 36) = true := by
  intro c hc
  simp only [q_X3_has, List.mem_cons, List.not_mem_nil, or_false] at hc
  subst hc
  · exact ok_X3_has_0
theorem ok_X3_hasRun_0 : q_X3_hasRun_0.all (mm_ok 37) = true := by decide +kernel
theorem ok_X3_hasRun : ∀ c ∈ q_X3_hasRun, c.all (mm_ok 37) = true := by
  intro c hc
  simp only [q_X3_hasRun, List.mem_cons, List.not_mem_nil, or_false] at hc
  subst hc
  · exact ok_X3_hasRun_0
theorem ok_X3_value_0 : q_X3_value_0.all (mm_ok 38) = true := by decide +kernel
theorem ok_X3_value : ∀ c ∈ q_X3_value, c.all (mm_ok 38) = true := by
  intro c hc
  simp only [q_X3_value, List.mem_cons, List.not_mem_nil, or_false] at hc
  subst hc
  · exact ok_X3_value_0
theorem ok_X3_swap_0 : q_X3_swap_0.all (mm_ok 39) = true := by decide +kernel
theorem ok_X3_swap : ∀ c ∈ q_X3_swap, c.all (mm_ok 39) = true := by
  intro c hc
  simp only [q_X3_swap, List.mem_cons, List.not_mem_nil, or_false] at hc
  subst hc
  · exact ok_X3_swap_0
theorem ok_X3_renew_0 : q_X3_renew_0.all (mm_ok 40) = true := by decide +kernel
theorem ok_X3_renew : ∀ c ∈ q_X3_renew, c.all (mm_ok 40) = true := by
  intro c hc
  simp only [q_X3_renew, List.mem_cons, List.not_mem_nil, or_false] at hc
  subst hc
  · exact ok_X3_renew_0
theorem ok_X3_remove_0 : q_X3_remove_0.all (mm_ok 41) = true := by decide +kernel
theorem ok_X3_remove : ∀ c ∈ q_X3_remove, c.all (mm_ok 41) = true := by
  intro c hc
  simp only [q_X3_remove, List.mem_cons, List.not_mem_nil, or_false] at hc
  subst hc
  · exact ok_X3_remove_0
theorem ok_X3_sum_0 : q_X3_sum_0.all (mm_ok 42) = true := by decide +kernel
theorem ok_X3_sum : ∀ c ∈ q_X3_sum, c.all (mm_ok 42) = true := by
  intro c hc
  simp only [q_X3_sum, List.mem_cons, List.not_mem_nil, or_false] at hc
  subst hc
  · exact ok_X3_sum_0
theorem ok_X3_digestFrom_0 : q_X3_digestFrom_0.all (mm_ok 43) = true := by decide +kernel
theorem ok_X3_digestFrom : ∀ c ∈ q_X3_digestFrom, c.all (mm_ok 43) = true := by
  intro c hc
  simp only [q_X3_digestFrom, List.mem_cons, List.not_mem_nil, or_false] at hc
  subst hc
  · exact ok_X3_digestFrom_0
theorem ok_X4_init_0 : q_X4_init_0.all (mm_ok 44) = true := by decide +kernel
theorem ok_X4_init : ∀ c ∈ q_X4_init, c.all (mm_ok 44) = true := by
  intro c hc
  simp only [q_X4_init, List.mem_cons, List.not_mem_nil, or_false] at hc
  subst hc
  · exact ok_X4_init_0
theorem ok_X4_find_0 : q_X4_find_0.all (mm_ok 45) = true := by decide +kernel
theorem ok_X4_find_1 : q_X4_find_1.all (mm_ok 45) = true := by decide +kernel
theorem ok_X4_find_2 : q_X4_find_2.all (mm_ok 45) = true := by decide +kernel
theorem ok_X4_find : ∀ c ∈ q_X4_find, c.all (mm_ok 45) = true := by
  intro c hc
  simp only [q_X4_find, List.mem_cons, List.not_mem_nil, or_false] at hc
  rcases hc with rfl | rfl | rfl
  · exact ok_X4_find_0
  · exact ok_X4_find_1
  · exact ok_X4_find_2
theorem ok_X4_first_0 : q_X4_first_0.all (mm_ok 46) = true := by decide +kernel
theorem ok_X4_first : ∀ c ∈ q_X4_first, c.all (mm_ok 46) = true := by
  intro c hc
  simp only [q_X4_first, List.mem_cons, List.not_mem_nil, or_false] at hc
  subst hc
  · exact ok_X4_first_0
theorem ok_X4_surelyStanding_0 : q_X4_surelyStanding_0.all (mm_ok 47) = true := by decide +kernel
theorem ok_X4_surelyStanding : ∀ c ∈ q_X4_surelyStanding, c.all (mm_ok 47) = true := by
  intro c hc
  simp only [q_X4_surelyStanding, List.mem_cons, List.not_mem_nil, or_false] at hc
  subst hc
  · exact ok_X4_surelyStanding_0
theorem ok_X4_surelyFalling_0 : q_X4_surelyFalling_0.all (mm_ok 48) = true := by decide +kernel
theorem ok_X4_surelyFalling : ∀ c ∈ q_X4_surelyFalling, c.all (mm_ok 48) = true := by
  intro c hc
  simp only [q_X4_surelyFalling, List.mem_cons, List.not_mem_nil, or_false] at hc
  subst hc
  · exact ok_X4_surelyFalling_0
theorem ok_X4_waysWith_0 : q_X4_waysWith_0.all (mm_ok 49) = true := by decide +kernel
theorem ok_X4_waysWith : ∀ c ∈ q_X4_waysWith, c.all (mm_ok 49) = true := by
  intro c hc
  simp only [q_X4_waysWith, List.mem_cons, List.not_mem_nil, or_false] at hc
  subst hc
  · exact ok_X4_waysWith_0
theorem ok_X4_meets_0 : q_X4_meets_0.all (mm_ok 50) = true := by decide +kernel
theorem ok_X4_meets : ∀ c ∈ q_X4_meets, c.all (mm_ok 50) = true := by
  intro c hc
  simp only [q_X4_meets, List.mem_cons, List.not_mem_nil, or_false] at hc
  subst hc
  · exact ok_X4_meets_0
theorem ok_X5_init_0 : q_X5_init_0.all (mm_ok 51) = true := by decide +kernel
theorem ok_X5_init_1 : q_X5_init_1.all (mm_ok 51) = true := by decide +kernel
theorem ok_X5_init_2 : q_X5_init_2.all (mm_ok 51) = true := by decide +kernel
theorem ok_X5_init_3 : q_X5_init_3.all (mm_ok 51) = true := by decide +kernel
theorem ok_X5_init : ∀ c ∈ q_X5_init, c.all (mm_ok 51) = true := by
  intro c hc
  simp only [q_X5_init, List.mem_cons, List.not_mem_nil, or_false] at hc
  rcases hc with rfl | rfl | rfl | rfl
  · exact ok_X5_init_0
  · exact ok_X5_init_1
  · exact ok_X5_init_2
  · exact ok_X5_init_3
theorem ok_X5_row_0 : q_X5_row_0.all (mm_ok 52) = true := by decide +kernel
theorem ok_X5_row : ∀ c ∈ q_X5_row, c.all (mm_ok 52) = true := by
  intro c hc
  simp only [q_X5_row, List.mem_cons, List.not_mem_nil, or_false] at hc
  subst hc
  · exact ok_X5_row_0
theorem ok_X5_lay_0 : q_X5_lay_0.all (mm_ok 53) = true := by decide +kernel
theorem ok_X5_lay : ∀ c ∈ q_X5_lay, c.all (mm_ok 53) = true := by
  intro c hc
  simp only [q_X5_lay, List.mem_cons, List.not_mem_nil, or_false] at hc
  subst hc
  · exact ok_X5_lay_0
theorem ok_X5_at_0 : q_X5_at_0.all (mm_ok 54) = true := by decide +kernel
theorem ok_X5_at : ∀ c ∈ q_X5_at, c.all (mm_ok 54) = true := by
  intro c hc
  simp only [q_X5_at, List.mem_cons, List.not_mem_nil, or_false] at hc
  subst hc
  · exact ok_X5_at_0
theorem ok_X5_tear_0 : q_X5_tear_0.all (mm_ok 55) = true := by decide +kernel
theorem ok_X5_tear : ∀ c ∈ q_X5_tear, c.all (mm_ok 55) = true := by
  intro c hc
  simp only [q_X5_tear, List.mem_cons, List.not_mem_nil, or_false] at hc
  subst hc
  · exact ok_X5_tear_0
theorem ok_X5_copy_0 : q_X5_copy_0.all (mm_ok 56) = true := by decide +kernel
theorem ok_X5_copy_1 : q_X5_copy_1.all (mm_ok 56) = true := by decide +kernel
theorem ok_X5_copy_2 : q_X5_copy_2.all (mm_ok 56) = true := by decide +kernel
theorem ok_X5_copy : ∀ c ∈ q_X5_copy, c.all (mm_ok 56) = true := by
  intro c hc
  simp only [q_X5_copy, List.mem_cons, List.not_mem_nil, or_false] at hc
  rcases hc with rfl | rfl | rfl
  · exact ok_X5_copy_0
  · exact ok_X5_copy_1
  · exact ok_X5_copy_2
theorem ok_X5_mean_0 : q_X5_mean_0.all (mm_ok 57) = true := by decide +kernel
theorem ok_X5_mean_1 : q_X5_mean_1.all (mm_ok 57) = true := by decide +kernel
theorem ok_X5_mean : ∀ c ∈ q_X5_mean, c.all (mm_ok 57) = true := by
  intro c hc
  simp only [q_X5_mean, List.mem_cons, List.not_mem_nil, or_false] at hc
  rcases hc with rfl | rfl
  · exact ok_X5_mean_0
  · exact ok_X5_mean_1
theorem ok_X5_text_0 : q_X5_text_0.all (mm_ok 58) = true := by decide +kernel
theorem ok_X5_text : ∀ c ∈ q_X5_text, c.all (mm_ok 58) = true := by
  intro c hc
  simp only [q_X5_text, List.mem_cons, List.not_mem_nil, or_false] at hc
  subst hc
  · exact ok_X5_text_0
theorem ok_X5_put_0 : q_X5_put_0.all (mm_ok 59) = true := by decide +kernel
theorem ok_X5_put : ∀ c ∈ q_X5_put, c.all (mm_ok 59) = true := by
  intro c hc
  simp only [q_X5_put, List.mem_cons, List.not_mem_nil, or_false] at hc
  subst hc
  · exact ok_X5_put_0
theorem ok_X5_fault_0 : q_X5_fault_0.all (mm_ok 60) = true := by decide +kernel
theorem ok_X5_fault : ∀ c ∈ q_X5_fault, c.all (mm_ok 60) = true := by
  intro c hc
  simp only [q_X5_fault, List.mem_cons, List.not_mem_nil, or_false] at hc
  subst hc
  · exact ok_X5_fault_0
theorem ok_X5_court_0 : q_X5_court_0.all (mm_ok 61) = true := by decide +kernel
theorem ok_X5_court_1 : q_X5_court_1.all (mm_ok 61) = true := by decide +kernel
theorem ok_X5_court : ∀ c ∈ q_X5_court, c.all (mm_ok 61) = true := by
  intro c hc
  simp only [q_X5_court, List.mem_cons, List.not_mem_nil, or_false] at hc
  rcases hc with rfl | rfl
  · exact ok_X5_court_0
  · exact ok_X5_court_1
theorem ok_X5_ruling_0 : q_X5_ruling_0.all (mm_ok 62) = true := by decide +kernel
theorem ok_X5_ruling : ∀ c ∈ q_X5_ruling, c.all (mm_ok 62) = true := by
  intro c hc
  simp only [q_X5_ruling, List.mem_cons, List.not_mem_nil, or_false] at hc
  subst hc
  · exact ok_X5_ruling_0
theorem ok_X5_mark_0 : q_X5_mark_0.all (mm_ok 63) = true := by decide +kernel
theorem ok_X5_mark_1 : q_X5_mark_1.all (mm_ok 63) = true := by decide +kernel
theorem ok_X5_mark : ∀ c ∈ q_X5_mark, c.all (mm_ok 63) = true := by
  intro c hc
  simp only [q_X5_mark, List.mem_cons, List.not_mem_nil, or_false] at hc
  rcases hc with rfl | rfl
  · exact ok_X5_mark_0
  · exact ok_X5_mark_1
theorem ok_X5_reverse_0 : q_X5_reverse_0.all (mm_ok 64) = true := by decide +kernel
theorem ok_X5_reverse : ∀ c ∈ q_X5_reverse, c.all (mm_ok 64) = true := by
  intro c hc
  simp only [q_X5_reverse, List.mem_cons, List.not_mem_nil, or_false] at hc
  subst hc
  · exact ok_X5_reverse_0
theorem ok_X5_marks_0 : q_X5_marks_0.all (mm_ok 65) = true := by decide +kernel
theorem ok_X5_marks : ∀ c ∈ q_X5_marks, c.all (mm_ok 65) = true := by
  intro c hc
  simp only [q_X5_marks, List.mem_cons, List.not_mem_nil, or_false] at hc
  subst hc
  · exact ok_X5_marks_0
theorem ok_X5_file_0 : q_X5_file_0.all (mm_ok 66) = true := by decide +kernel
theorem ok_X5_file_1 : q_X5_file_1.all (mm_ok 66) = true := by decide +kernel
theorem ok_X5_file_2 : q_X5_file_2.all (mm_ok 66) = true := by decide +kernel
theorem ok_X5_file : ∀ c ∈ q_X5_file, c.all (mm_ok 66) = true := by
  intro c hc
  simp only [q_X5_file, List.mem_cons, List.not_mem_nil, or_false] at hc
  rcases hc with rfl | rfl | rfl
  · exact ok_X5_file_0
  · exact ok_X5_file_1
  · exact ok_X5_file_2
theorem ok_X5_strike_0 : q_X5_strike_0.all (mm_ok 67) = true := by decide +kernel
theorem ok_X5_strike : ∀ c ∈ q_X5_strike, c.all (mm_ok 67) = true := by
  intro c hc
  simp only [q_X5_strike, List.mem_cons, List.not_mem_nil, or_false] at hc
  subst hc
  · exact ok_X5_strike_0
theorem ok_X5_keep_0 : q_X5_keep_0.all (mm_ok 68) = true := by decide +kernel
theorem ok_X5_keep : ∀ c ∈ q_X5_keep, c.all (mm_ok 68) = true := by
  intro c hc
  simp only [q_X5_keep, List.mem_cons, List.not_mem_nil, or_false] at hc
  subst hc
  · exact ok_X5_keep_0
theorem ok_X5_on_0 : q_X5_on_0.all (mm_ok 69) = true := by decide +kernel
theorem ok_X5_on : ∀ c ∈ q_X5_on, c.all (mm_ok 69) = true := by
  intro c hc
  simp only [q_X5_on, List.mem_cons, List.not_mem_nil, or_false] at hc
  subst hc
  · exact ok_X5_on_0
theorem ok_X5_due_0 : q_X5_due_0.all (mm_ok 70) = true := by decide +kernel
theorem ok_X5_due_1 : q_X5_due_1.all (mm_ok 70) = true := by decide +kernel
theorem ok_X5_due : ∀ c ∈ q_X5_due, c.all (mm_ok 70) = true := by
  intro c hc
  simp only [q_X5_due, List.mem_cons, List.not_mem_nil, or_false] at hc
  rcases hc with rfl | rfl
  · exact ok_X5_due_0
  · exact ok_X5_due_1
theorem ok_X5_ways_0 : q_X5_ways_0.all (mm_ok 71) = true := by decide +kernel
theorem ok_X5_ways : ∀ c ∈ q_X5_ways, c.all (mm_ok 71) = true := by
  intro c hc
  simp only [q_X5_ways, List.mem_cons, List.not_mem_nil, or_false] at hc
  subst hc
  · exact ok_X5_ways_0
theorem ok_X5_nth_0 : q_X5_nth_0.all (mm_ok 72) = true := by decide +kernel
theorem ok_X5_nth : ∀ c ∈ q_X5_nth, c.all (mm_ok 72) = true := by
  intro c hc
  simp only [q_X5_nth, List.mem_cons, List.not_mem_nil, or_false] at hc
  subst hc
  · exact ok_X5_nth_0
theorem ok_X5_sure_0 : q_X5_sure_0.all (mm_ok 73) = true := by decide +kernel
theorem ok_X5_sure : ∀ c ∈ q_X5_sure, c.all (mm_ok 73) = true := by
  intro c hc
  simp only [q_X5_sure, List.mem_cons, List.not_mem_nil, or_false] at hc
  subst hc
  · exact ok_X5_sure_0
theorem ok_X5_odds_0 : q_X5_odds_0.all (mm_ok 74) = true := by decide +kernel
theorem ok_X5_odds_1 : q_X5_odds_1.all (mm_ok 74) = true := by decide +kernel
theorem ok_X5_odds : ∀ c ∈ q_X5_odds, c.all (mm_ok 74) = true := by
  intro c hc
  simp only [q_X5_odds, List.mem_cons, List.not_mem_nil, or_false] at hc
  rcases hc with rfl | rfl
  · exact ok_X5_odds_0
  · exact ok_X5_odds_1
theorem ok_X5_together_0 : q_X5_together_0.all (mm_ok 75) = true := by decide +kernel
theorem ok_X5_together_1 : q_X5_together_1.all (mm_ok 75) = true := by decide +kernel
theorem ok_X5_together : ∀ c ∈ q_X5_together, c.all (mm_ok 75) = true := by
  intro c hc
  simp only [q_X5_together, List.mem_cons, List.not_mem_nil, or_false] at hc
  rcases hc with rfl | rfl
  · exact ok_X5_together_0
  · exact ok_X5_together_1
theorem ok_X5_till_0 : q_X5_till_0.all (mm_ok 76) = true := by decide +kernel
theorem ok_X5_till : ∀ c ∈ q_X5_till, c.all (mm_ok 76) = true := by
  intro c hc
  simp only [q_X5_till, List.mem_cons, List.not_mem_nil, or_false] at hc
  subst hc
  · exact ok_X5_till_0
theorem ok_X5_flips_0 : q_X5_flips_0.all (mm_ok 77) = true := by decide +kernel
theorem ok_X5_flips_1 : q_X5_flips_1.all (mm_ok 77) = true := by decide +kernel
theorem ok_X5_flips : ∀ c ∈ q_X5_flips, c.all (mm_ok 77) = true := by
  intro c hc
  simp only [q_X5_flips, List.mem_cons, List.not_mem_nil, or_false] at hc
  rcases hc with rfl | rfl
  · exact ok_X5_flips_0
  · exact ok_X5_flips_1
theorem ok_X5_jam_0 : q_X5_jam_0.all (mm_ok 78) = true := by decide +kernel
theorem ok_X5_jam : ∀ c ∈ q_X5_jam, c.all (mm_ok 78) = true := by
  intro c hc
  simp only [q_X5_jam, List.mem_cons, List.not_mem_nil, or_false] at hc
  subst hc
  · exact ok_X5_jam_0
theorem ok_X5_fell_0 : q_X5_fell_0.all (mm_ok 79) = true := by decide +kernel
theorem ok_X5_fell : ∀ c ∈ q_X5_fell, c.all (mm_ok 79) = true := by
  intro c hc
  simp only [q_X5_fell, List.mem_cons, List.not_mem_nil, or_false] at hc
  subst hc
  · exact ok_X5_fell_0
theorem ok_X5_guard_0 : q_X5_guard_0.all (mm_ok 80) = true := by decide +kernel
theorem ok_X5_guard : ∀ c ∈ q_X5_guard, c.all (mm_ok 80) = true := by
  intro c hc
  simp only [q_X5_guard, List.mem_cons, List.not_mem_nil, or_false] at hc
  subst hc
  · exact ok_X5_guard_0
theorem ok_X5_settle_0 : q_X5_settle_0.all (mm_ok 81) = true := by decide +kernel
theorem ok_X5_settle : ∀ c ∈ q_X5_settle, c.all (mm_ok 81) = true := by
  intro c hc
  simp only [q_X5_settle, List.mem_cons, List.not_mem_nil, or_false] at hc
  subst hc
  · exact ok_X5_settle_0
theorem ok_X5_matter_0 : q_X5_matter_0.all (mm_ok 82) = true := by decide +kernel
theorem ok_X5_matter : ∀ c ∈ q_X5_matter, c.all (mm_ok 82) = true := by
  intro c hc
  simp only [q_X5_matter, List.mem_cons, List.not_mem_nil, or_false] at hc
  subst hc
  · exact ok_X5_matter_0
theorem ok_X5_judge_0 : q_X5_judge_0.all (mm_ok 83) = true := by decide +kernel
theorem ok_X5_judge_1 : q_X5_judge_1.all (mm_ok 83) = true := by decide +kernel
theorem ok_X5_judge : ∀ c ∈ q_X5_judge, c.all (mm_ok 83) = true := by
  intro c hc
  simp only [q_X5_judge, List.mem_cons, List.not_mem_nil, or_false] at hc
  rcases hc with rfl | rfl
  · exact ok_X5_judge_0
  · exact ok_X5_judge_1
theorem ok_X5_like_0 : q_X5_like_0.all (mm_ok 84) = true := by decide +kernel
theorem ok_X5_like : ∀ c ∈ q_X5_like, c.all (mm_ok 84) = true := by
  intro c hc
  simp only [q_X5_like, List.mem_cons, List.not_mem_nil, or_false] at hc
  subst hc
  · exact ok_X5_like_0
theorem ok_X5_verdict_0 : q_X5_verdict_0.all (mm_ok 85) = true := by decide +kernel
theorem ok_X5_verdict : ∀ c ∈ q_X5_verdict, c.all (mm_ok 85) = true := by
  intro c hc
  simp only [q_X5_verdict, List.mem_cons, List.not_mem_nil, or_false] at hc
  subst hc
  · exact ok_X5_verdict_0
theorem ok_X5_surely_0 : q_X5_surely_0.all (mm_ok 86) = true := by decide +kernel
theorem ok_X5_surely_1 : q_X5_surely_1.all (mm_ok 86) = true := by decide +kernel
theorem ok_X5_surely : ∀ c ∈ q_X5_surely, c.all (mm_ok 86) = true := by
  intro c hc
  simp only [q_X5_surely, List.mem_cons, List.not_mem_nil, or_false] at hc
  rcases hc with rfl | rfl
  · exact ok_X5_surely_0
  · exact ok_X5_surely_1
theorem ok_X5_freed_0 : q_X5_freed_0.all (mm_ok 87) = true := by decide +kernel
theorem ok_X5_freed_1 : q_X5_freed_1.all (mm_ok 87) = true := by decide +kernel
theorem ok_X5_freed : ∀ c ∈ q_X5_freed, c.all (mm_ok 87) = true := by
  intro c hc
  simp only [q_X5_freed, List.mem_cons, List.not_mem_nil, or_false] at hc
  rcases hc with rfl | rfl
  · exact ok_X5_freed_0
  · exact ok_X5_freed_1
theorem ok_X5_code_0 : q_X5_code_0.all (mm_ok 88) = true := by decide +kernel
theorem ok_X5_code_1 : q_X5_code_1.all (mm_ok 88) = true := by decide +kernel
theorem ok_X5_code : ∀ c ∈ q_X5_code, c.all (mm_ok 88) = true := by
  intro c hc
  simp only [q_X5_code, List.mem_cons, List.not_mem_nil, or_false] at hc
  rcases hc with rfl | rfl
  · exact ok_X5_code_0
  · exact ok_X5_code_1
theorem ok_X5_kinds_0 : q_X5_kinds_0.all (mm_ok 89) = true := by decide +kernel
theorem ok_X5_kinds_1 : q_X5_kinds_1.all (mm_ok 89) = true := by decide +kernel
theorem ok_X5_kinds : ∀ c ∈ q_X5_kinds, c.all (mm_ok 89) = true := by
  intro c hc
  simp only [q_X5_kinds, List.mem_cons, List.not_mem_nil, or_false] at hc
  rcases hc with rfl | rfl
  · exact ok_X5_kinds_0
  · exact ok_X5_kinds_1
theorem ok_X5_forged_0 : q_X5_forged_0.all (mm_ok 90) = true := by decide +kernel
theorem ok_X5_forged_1 : q_X5_forged_1.all (mm_ok 90) = true := by decide +kernel
theorem ok_X5_forged : ∀ c ∈ q_X5_forged, c.all (mm_ok 90) = true := by
  intro c hc
  simp only [q_X5_forged, List.mem_cons, List.not_mem_nil, or_false] at hc
  rcases hc with rfl | rfl
  · exact ok_X5_forged_0
  · exact ok_X5_forged_1
theorem ok_X5_torn_0 : q_X5_torn_0.all (mm_ok 91) = true := by decide +kernel
theorem ok_X5_torn_1 : q_X5_torn_1.all (mm_ok 91) = true := by decide +kernel
theorem ok_X5_torn : ∀ c ∈ q_X5_torn, c.all (mm_ok 91) = true := by
  intro c hc
  simp only [q_X5_torn, List.mem_cons, List.not_mem_nil, or_false] at hc
  rcases hc with rfl | rfl
  · exact ok_X5_torn_0
  · exact ok_X5_torn_1
theorem ok_X5_lots_0 : q_X5_lots_0.all (mm_ok 92) = true := by decide +kernel
theorem ok_X5_lots_1 : q_X5_lots_1.all (mm_ok 92) = true := by decide +kernel
theorem ok_X5_lots : ∀ c ∈ q_X5_lots, c.all (mm_ok 92) = true := by
  intro c hc
  simp only [q_X5_lots, List.mem_cons, List.not_mem_nil, or_false] at hc
  rcases hc with rfl | rfl
  · exact ok_X5_lots_0
  · exact ok_X5_lots_1
theorem ok_X5_asked_0 : q_X5_asked_0.all (mm_ok 93) = true := by decide +kernel
theorem ok_X5_asked : ∀ c ∈ q_X5_asked, c.all (mm_ok 93) = true := by
  intro c hc
  simp only [q_X5_asked, List.mem_cons, List.not_mem_nil, or_false] at hc
  subst hc
  · exact ok_X5_asked_0
theorem ok_X5_upper_0 : q_X5_upper_0.all (mm_ok 94) = true := by decide +kernel
theorem ok_X5_upper : ∀ c ∈ q_X5_upper, c.all (mm_ok 94) = true := by
  intro c hc
  simp only [q_X5_upper, List.mem_cons, List.not_mem_nil, or_false] at hc
  subst hc
  · exact ok_X5_upper_0
theorem ok_X5_lower_0 : q_X5_lower_0.all (mm_ok 95) = true := by decide +kernel
theorem ok_X5_lower : ∀ c ∈ q_X5_lower, c.all (mm_ok 95) = true := by
  intro c hc
  simp only [q_X5_lower, List.mem_cons, List.not_mem_nil, or_false] at hc
  subst hc
  · exact ok_X5_lower_0
theorem ok_X5_count_0 : q_X5_count_0.all (mm_ok 96) = true := by decide +kernel
theorem ok_X5_count : ∀ c ∈ q_X5_count, c.all (mm_ok 96) = true := by
  intro c hc
  simp only [q_X5_count, List.mem_cons, List.not_mem_nil, or_false] at hc
  subst hc
  · exact ok_X5_count_0
theorem ok_X5_finding_0 : q_X5_finding_0.all (mm_ok 97) = true := by decide +kernel
theorem ok_X5_finding : ∀ c ∈ q_X5_finding, c.all (mm_ok 97) = true := by
  intro c hc
  simp only [q_X5_finding, List.mem_cons, List.not_mem_nil, or_false] at hc
  subst hc
  · exact ok_X5_finding_0
theorem ok_X5_findings_0 : q_X5_findings_0.all (mm_ok 98) = true := by decide +kernel
theorem ok_X5_findings : ∀ c ∈ q_X5_findings, c.all (mm_ok 98) = true := by
  intro c hc
  simp only [q_X5_findings, List.mem_cons, List.not_mem_nil, or_false] at hc
  subst hc
  · exact ok_X5_findings_0
theorem ok_X5_digest_0 : q_X5_digest_0.all (mm_ok 99) = true := by decide +kernel
theorem ok_X5_digest_1 : q_X5_digest_1.all (mm_ok 99) = true := by decide +kernel
theorem ok_X5_digest_2 : q_X5_digest_2.all (mm_ok 99) = true := by decide +kernel
theorem ok_X5_digest_3 : q_X5_digest_3.all (mm_ok 99) = true := by decide +kernel
theorem ok_X5_digest : ∀ c ∈ q_X5_digest, c.all (mm_ok 99) = true := by
  intro c hc
  simp only [q_X5_digest, List.mem_cons, List.not_mem_nil, or_false] at hc
  rcases hc with rfl | rfl | rfl | rfl
  · exact ok_X5_digest_0
  · exact ok_X5_digest_1
  · exact ok_X5_digest_2
  · exact ok_X5_digest_3
theorem ok_X5_within_0 : q_X5_within_0.all (mm_ok 100) = true := by decide +kernel
theorem ok_X5_within : ∀ c ∈ q_X5_within, c.all (mm_ok 100) = true := by
  intro c hc
  simp only [q_X5_within, List.mem_cons, List.not_mem_nil, or_false] at hc
  subst hc
  · exact ok_X5_within_0
theorem ok_X5_holds_0 : q_X5_holds_0.all (mm_ok 101) = true := by decide +kernel
theorem ok_X5_holds : ∀ c ∈ q_X5_holds, c.all (mm_ok 101) = true := by
  intro c hc
  simp only [q_X5_holds, List.mem_cons, List.not_mem_nil, or_false] at hc
  subst hc
  · exact ok_X5_holds_0
theorem ok_X5_isOfKind_0 : q_X5_isOfKind_0.all (mm_ok 102) = true := by decide +kernel
theorem ok_X5_isOfKind : ∀ c ∈ q_X5_isOfKind, c.all (mm_ok 102) = true := by
  intro c hc
  simp only [q_X5_isOfKind, List.mem_cons, List.not_mem_nil, or_false] at hc
  subst hc
  · exact ok_X5_isOfKind_0
theorem ok_X5_greatestDivisor_0 : q_X5_greatestDivisor_0.all (mm_ok 103) = true := by decide +kernel
theorem ok_X5_greatestDivisor : ∀ c ∈ q_X5_greatestDivisor, c.all (mm_ok 103) = true := by
  intro c hc
  simp only [q_X5_greatestDivisor, List.mem_cons, List.not_mem_nil, or_false] at hc
  subst hc
  · exact ok_X5_greatestDivisor_0
theorem ok_X5_refuse_0 : q_X5_refuse_0.all (mm_ok 104) = true := by decide +kernel
theorem ok_X5_refuse : ∀ c ∈ q_X5_refuse, c.all (mm_ok 104) = true := by
  intro c hc
  simp only [q_X5_refuse, List.mem_cons, List.not_mem_nil, or_false] at hc
  subst hc
  · exact ok_X5_refuse_0
theorem ok_X5_tell_0 : q_X5_tell_0.all (mm_ok 105) = true := by decide +kernel
theorem ok_X5_tell : ∀ c ∈ q_X5_tell, c.all (mm_ok 105) = true := by
  intro c hc
  simp only [q_X5_tell, List.mem_cons, List.not_mem_nil, or_false] at hc
  subst hc
  · exact ok_X5_tell_0
theorem ok_X5_renewed_0 : q_X5_renewed_0.all (mm_ok 106) = true := by decide +kernel
theorem ok_X5_renewed : ∀ c ∈ q_X5_renewed, c.all (mm_ok 106) = true := by
  intro c hc
  simp only [q_X5_renewed, List.mem_cons, List.not_mem_nil, or_false] at hc
  subst hc
  · exact ok_X5_renewed_0
theorem ok_X5_refusalOfPlace_0 : q_X5_refusalOfPlace_0.all (mm_ok 107) = true := by decide +kernel
theorem ok_X5_refusalOfPlace : ∀ c ∈ q_X5_refusalOfPlace, c.all (mm_ok 107) = true := by
  intro c hc
  simp only [q_X5_refusalOfPlace, List.mem_cons, List.not_mem_nil, or_false] at hc
  subst hc
  · exact ok_X5_refusalOfPlace_0
theorem ok_X5_isKept_0 : q_X5_isKept_0.all (mm_ok 108) = true := by decide +kernel
theorem ok_X5_isKept : ∀ c ∈ q_X5_isKept, c.all (mm_ok 108) = true := by
  intro c hc
  simp only [q_X5_isKept, List.mem_cons, List.not_mem_nil, or_false] at hc
  subst hc
  · exact ok_X5_isKept_0
theorem ok_X5_findWays_0 : q_X5_findWays_0.all (mm_ok 109) = true := by decide +kernel
theorem ok_X5_findWays : ∀ c ∈ q_X5_findWays, c.all (mm_ok 109) = true := by
  intro c hc
  simp only [q_X5_findWays, List.mem_cons, List.not_mem_nil, or_false] at hc
  subst hc
  · exact ok_X5_findWays_0
theorem ok_X5_fewest_0 : q_X5_fewest_0.all (mm_ok 110) = true := by decide +kernel
theorem ok_X5_fewest_1 : q_X5_fewest_1.all (mm_ok 110) = true := by decide +kernel
theorem ok_X5_fewest : ∀ c ∈ q_X5_fewest, c.all (mm_ok 110) = true := by
  intro c hc
  simp only [q_X5_fewest, List.mem_cons, List.not_mem_nil, or_false] at hc
  rcases hc with rfl | rfl
  · exact ok_X5_fewest_0
  · exact ok_X5_fewest_1
theorem ok_X5_canReach_0 : q_X5_canReach_0.all (mm_ok 111) = true := by decide +kernel
theorem ok_X5_canReach_1 : q_X5_canReach_1.all (mm_ok 111) = true := by decide +kernel
theorem ok_X5_canReach_2 : q_X5_canReach_2.all (mm_ok 111) = true := by decide +kernel
theorem ok_X5_canReach : ∀ c ∈ q_X5_canReach, c.all (mm_ok 111) = true := by
  intro c hc
  simp only [q_X5_canReach, List.mem_cons, List.not_mem_nil, or_false] at hc
  rcases hc with rfl | rfl | rfl
  · exact ok_X5_canReach_0
  · exact ok_X5_canReach_1
  · exact ok_X5_canReach_2
theorem ok_X5_changedWithout_0 : q_X5_changedWithout_0.all (mm_ok 112) = true := by decide +kernel
theorem ok_X5_changedWithout_1 : q_X5_changedWithout_1.all (mm_ok 112) = true := by decide +kernel
theorem ok_X5_changedWithout : ∀ c ∈ q_X5_changedWithout, c.all (mm_ok 112) = true := by
  intro c hc
  simp only [q_X5_changedWithout, List.mem_cons, List.not_mem_nil, or_false] at hc
  rcases hc with rfl | rfl
  · exact ok_X5_changedWithout_0
  · exact ok_X5_changedWithout_1
theorem ok_X5_fileByLot_0 : q_X5_fileByLot_0.all (mm_ok 113) = true := by decide +kernel
theorem ok_X5_fileByLot_1 : q_X5_fileByLot_1.all (mm_ok 113) = true := by decide +kernel
theorem ok_X5_fileByLot_2 : q_X5_fileByLot_2.all (mm_ok 113) = true := by decide +kernel
theorem ok_X5_fileByLot : ∀ c ∈ q_X5_fileByLot, c.all (mm_ok 113) = true := by
  intro c hc
  simp only [q_X5_fileByLot, List.mem_cons, List.not_mem_nil, or_false] at hc
  rcases hc with rfl | rfl | rfl
  · exact ok_X5_fileByLot_0
  · exact ok_X5_fileByLot_1
  · exact ok_X5_fileByLot_2
theorem ok_X5_countOf_0 : q_X5_countOf_0.all (mm_ok 114) = true := by decide +kernel
theorem ok_X5_countOf_1 : q_X5_countOf_1.all (mm_ok 114) = true := by decide +kernel
theorem ok_X5_countOf : ∀ c ∈ q_X5_countOf, c.all (mm_ok 114) = true := by
  intro c hc
  simp only [q_X5_countOf, List.mem_cons, List.not_mem_nil, or_false] at hc
  rcases hc with rfl | rfl
  · exact ok_X5_countOf_0
  · exact ok_X5_countOf_1
theorem ok_X5_there_0 : q_X5_there_0.all (mm_ok 115) = true := by decide +kernel
theorem ok_X5_there : ∀ c ∈ q_X5_there, c.all (mm_ok 115) = true := by
  intro c hc
  simp only [q_X5_there, List.mem_cons, List.not_mem_nil, or_false] at hc
  subst hc
  · exact ok_X5_there_0
theorem ok_X6_init_0 : q_X6_init_0.all (mm_ok 116) = true := by decide +kernel
theorem ok_X6_init_1 : q_X6_init_1.all (mm_ok 116) = true := by decide +kernel
theorem ok_X6_init_2 : q_X6_init_2.all (mm_ok 116) = true := by decide +kernel
theorem ok_X6_init_3 : q_X6_init_3.all (mm_ok 116) = true := by decide +kernel
theorem ok_X6_init : ∀ c ∈ q_X6_init, c.all (mm_ok 116) = true := by
  intro c hc
  simp only [q_X6_init, List.mem_cons, List.not_mem_nil, or_false] at hc
  rcases hc with rfl | rfl | rfl | rfl
  · exact ok_X6_init_0
  · exact ok_X6_init_1
  · exact ok_X6_init_2
  · exact ok_X6_init_3
theorem ok_X6_in_0 : q_X6_in_0.all (mm_ok 117) = true := by decide +kernel
theorem ok_X6_in : ∀ c ∈ q_X6_in, c.all (mm_ok 117) = true := by
  intro c hc
  simp only [q_X6_in, List.mem_cons, List.not_mem_nil, or_false] at hc
  subst hc
  · exact ok_X6_in_0
theorem ok_X6_has_0 : q_X6_has_0.all (mm_ok 118) = true := by decide +kernel
theorem ok_X6_has : ∀ c ∈ q_X6_has, c.all (mm_ok 118) = true := by
  intro c hc
  simp only [q_X6_has, List.mem_cons, List.not_mem_nil, or_false] at hc
  subst hc
  · exact ok_X6_has_0
theorem ok_X6_ones_0 : q_X6_ones_0.all (mm_ok 119) = true := by decide +kernel
theorem ok_X6_ones : ∀ c ∈ q_X6_ones, c.all (mm_ok 119) = true := by
  intro c hc
  simp only [q_X6_ones, List.mem_cons, List.not_mem_nil, or_false] at hc
  subst hc
  · exact ok_X6_ones_0
theorem ok_X6_finds_0 : q_X6_finds_0.all (mm_ok 120) = true := by decide +kernel
theorem ok_X6_finds : ∀ c ∈ q_X6_finds, c.all (mm_ok 120) = true := by
  intro c hc
  simp only [q_X6_finds, List.mem_cons, List.not_mem_nil, or_false] at hc
  subst hc
  · exact ok_X6_finds_0
theorem ok_X6_tells_0 : q_X6_tells_0.all (mm_ok 121) = true := by decide +kernel
theorem ok_X6_tells : ∀ c ∈ q_X6_tells, c.all (mm_ok 121) = true := by
  intro c hc
  simp only [q_X6_tells, List.mem_cons, List.not_mem_nil, or_false] at hc
  subst hc
  · exact ok_X6_tells_0
theorem ok_X6_isRow_0 : q_X6_isRow_0.all (mm_ok 122) = true := by decide +kernel
theorem ok_X6_isRow : ∀ c ∈ q_X6_isRow, c.all (mm_ok 122) = true := by
  intro c hc
  simp only [q_X6_isRow, List.mem_cons, List.not_mem_nil, or_false] at hc
  subst hc
  · exact ok_X6_isRow_0
theorem ok_X6_isText_0 : q_X6_isText_0.all (mm_ok 123) = true := by decide +kernel
theorem ok_X6_isText : ∀ c ∈ q_X6_isText, c.all (mm_ok 123) = true := by
  intro c hc
  simp only [q_X6_isText, List.mem_cons, List.not_mem_nil, or_false] at hc
  subst hc
  · exact ok_X6_isText_0
theorem ok_X6_row_0 : q_X6_row_0.all (mm_ok 124) = true := by decide +kernel
theorem ok_X6_row_1 : q_X6_row_1.all (mm_ok 124) = true := by decide +kernel
theorem ok_X6_row : ∀ c ∈ q_X6_row, c.all (mm_ok 124) = true := by
  intro c hc
  simp only [q_X6_row, List.mem_cons, List.not_mem_nil, or_false] at hc
  rcases hc with rfl | rfl
  · exact ok_X6_row_0
  · exact ok_X6_row_1
theorem ok_X6_lay_0 : q_X6_lay_0.all (mm_ok 125) = true := by decide +kernel
theorem ok_X6_lay_1 : q_X6_lay_1.all (mm_ok 125) = true := by decide +kernel
theorem ok_X6_lay : ∀ c ∈ q_X6_lay, c.all (mm_ok 125) = true := by
  intro c hc
  simp only [q_X6_lay, List.mem_cons, List.not_mem_nil, or_false] at hc
  rcases hc with rfl | rfl
  · exact ok_X6_lay_0
  · exact ok_X6_lay_1
theorem ok_X6_at_0 : q_X6_at_0.all (mm_ok 126) = true := by decide +kernel
theorem ok_X6_at_1 : q_X6_at_1.all (mm_ok 126) = true := by decide +kernel
theorem ok_X6_at : ∀ c ∈ q_X6_at, c.all (mm_ok 126) = true := by
  intro c hc
  simp only [q_X6_at, List.mem_cons, List.not_mem_nil, or_false] at hc
  rcases hc with rfl | rfl
  · exact ok_X6_at_0
  · exact ok_X6_at_1
theorem ok_X6_tear_0 : q_X6_tear_0.all (mm_ok 127) = true := by decide +kernel
theorem ok_X6_tear : ∀ c ∈ q_X6_tear, c.all (mm_ok 127) = true := by
  intro c hc
  simp only [q_X6_tear, List.mem_cons, List.not_mem_nil, or_false] at hc
  subst hc
  · exact ok_X6_tear_0
theorem ok_X6_isPart_0 : q_X6_isPart_0.all (mm_ok 128) = true := by decide +kernel
theorem ok_X6_isPart : ∀ c ∈ q_X6_isPart, c.all (mm_ok 128) = true := by
  intro c hc
  simp only [q_X6_isPart, List.mem_cons, List.not_mem_nil, or_false] at hc
  subst hc
  · exact ok_X6_isPart_0
theorem ok_X6_copy_0 : q_X6_copy_0.all (mm_ok 129) = true := by decide +kernel
theorem ok_X6_copy_1 : q_X6_copy_1.all (mm_ok 129) = true := by decide +kernel
theorem ok_X6_copy_2 : q_X6_copy_2.all (mm_ok 129) = true := by decide +kernel
theorem ok_X6_copy : ∀ c ∈ q_X6_copy, c.all (mm_ok 129) = true := by
  intro c hc
  simp only [q_X6_copy, List.mem_cons, List.not_mem_nil, or_false] at hc
  rcases hc with rfl | rfl | rfl
  · exact ok_X6_copy_0
  · exact ok_X6_copy_1
  · exact ok_X6_copy_2
theorem ok_X6_mean_0 : q_X6_mean_0.all (mm_ok 130) = true := by decide +kernel
theorem ok_X6_mean_1 : q_X6_mean_1.all (mm_ok 130) = true := by decide +kernel
theorem ok_X6_mean : ∀ c ∈ q_X6_mean, c.all (mm_ok 130) = true := by
  intro c hc
  simp only [q_X6_mean, List.mem_cons, List.not_mem_nil, or_false] at hc
  rcases hc with rfl | rfl
  · exact ok_X6_mean_0
  · exact ok_X6_mean_1
theorem ok_X6_text_0 : q_X6_text_0.all (mm_ok 131) = true := by decide +kernel
theorem ok_X6_text_1 : q_X6_text_1.all (mm_ok 131) = true := by decide +kernel
theorem ok_X6_text : ∀ c ∈ q_X6_text, c.all (mm_ok 131) = true := by
  intro c hc
  simp only [q_X6_text, List.mem_cons, List.not_mem_nil, or_false] at hc
  rcases hc with rfl | rfl
  · exact ok_X6_text_0
  · exact ok_X6_text_1
theorem ok_X6_put_0 : q_X6_put_0.all (mm_ok 132) = true := by decide +kernel
theorem ok_X6_put_1 : q_X6_put_1.all (mm_ok 132) = true := by decide +kernel
theorem ok_X6_put : ∀ c ∈ q_X6_put, c.all (mm_ok 132) = true := by
  intro c hc
  simp only [q_X6_put, List.mem_cons, List.not_mem_nil, or_false] at hc
  rcases hc with rfl | rfl
  · exact ok_X6_put_0
  · exact ok_X6_put_1
theorem ok_X6_byteAt_0 : q_X6_byteAt_0.all (mm_ok 133) = true := by decide +kernel
theorem ok_X6_byteAt : ∀ c ∈ q_X6_byteAt, c.all (mm_ok 133) = true := by
  intro c hc
  simp only [q_X6_byteAt, List.mem_cons, List.not_mem_nil, or_false] at hc
  subst hc
  · exact ok_X6_byteAt_0
theorem ok_X6_kindOf_0 : q_X6_kindOf_0.all (mm_ok 134) = true := by decide +kernel
theorem ok_X6_kindOf : ∀ c ∈ q_X6_kindOf, c.all (mm_ok 134) = true := by
  intro c hc
  simp only [q_X6_kindOf, List.mem_cons, List.not_mem_nil, or_false] at hc
  subst hc
  · exact ok_X6_kindOf_0
theorem ok_X6_figure_0 : q_X6_figure_0.all (mm_ok 135) = true := by decide +kernel
theorem ok_X6_figure : ∀ c ∈ q_X6_figure, c.all (mm_ok 135) = true := by
  intro c hc
  simp only [q_X6_figure, List.mem_cons, List.not_mem_nil, or_false] at hc
  subst hc
  · exact ok_X6_figure_0
theorem ok_X6_faults_0 : q_X6_faults_0.all (mm_ok 136) = true := by decide +kernel
theorem ok_X6_faults : ∀ c ∈ q_X6_faults, c.all (mm_ok 136) = true := by
  intro c hc
  simp only [q_X6_faults, List.mem_cons, List.not_mem_nil, or_false] at hc
  subst hc
  · exact ok_X6_faults_0
theorem ok_X6_readsCitation_0 : q_X6_readsCitation_0.all (mm_ok 137) = true := by decide +kernel
theorem ok_X6_readsCitation_1 : q_X6_readsCitation_1.all (mm_ok 137) = true := by decide +kernel
theorem ok_X6_readsCitation_2 : q_X6_readsCitation_2.all (mm_ok 137) = true := by decide +kernel
theorem ok_X6_readsCitation : ∀ c ∈ q_X6_readsCitation, c.all (mm_ok 137) = true := by
  intro c hc
  simp only [q_X6_readsCitation, List.mem_cons, List.not_mem_nil, or_false] at hc
  rcases hc with rfl | rfl | rfl
  · exact ok_X6_readsCitation_0
  · exact ok_X6_readsCitation_1
  · exact ok_X6_readsCitation_2
theorem ok_X6_readsItem_0 : q_X6_readsItem_0.all (mm_ok 138) = true := by decide +kernel
theorem ok_X6_readsItem_1 : q_X6_readsItem_1.all (mm_ok 138) = true := by decide +kernel
theorem ok_X6_readsItem_2 : q_X6_readsItem_2.all (mm_ok 138) = true := by decide +kernel
theorem ok_X6_readsItem_3 : q_X6_readsItem_3.all (mm_ok 138) = true := by decide +kernel
theorem ok_X6_readsItem_4 : q_X6_readsItem_4.all (mm_ok 138) = true := by decide +kernel
theorem ok_X6_readsItem : ∀ c ∈ q_X6_readsItem, c.all (mm_ok 138) = true := by
  intro c hc
  simp only [q_X6_readsItem, List.mem_cons, List.not_mem_nil, or_false] at hc
  rcases hc with rfl | rfl | rfl | rfl | rfl
  · exact ok_X6_readsItem_0
  · exact ok_X6_readsItem_1
  · exact ok_X6_readsItem_2
  · exact ok_X6_readsItem_3
  · exact ok_X6_readsItem_4
theorem ok_X6_reads_0 : q_X6_reads_0.all (mm_ok 139) = true := by decide +kernel
theorem ok_X6_reads_1 : q_X6_reads_1.all (mm_ok 139) = true := by decide +kernel
theorem ok_X6_reads_2 : q_X6_reads_2.all (mm_ok 139) = true := by decide +kernel
theorem ok_X6_reads : ∀ c ∈ q_X6_reads, c.all (mm_ok 139) = true := by
  intro c hc
  simp only [q_X6_reads, List.mem_cons, List.not_mem_nil, or_false] at hc
  rcases hc with rfl | rfl | rfl
  · exact ok_X6_reads_0
  · exact ok_X6_reads_1
  · exact ok_X6_reads_2
theorem ok_X6_fault_0 : q_X6_fault_0.all (mm_ok 140) = true := by decide +kernel
theorem ok_X6_fault : ∀ c ∈ q_X6_fault, c.all (mm_ok 140) = true := by
  intro c hc
  simp only [q_X6_fault, List.mem_cons, List.not_mem_nil, or_false] at hc
  subst hc
  · exact ok_X6_fault_0
theorem ok_X6_adds_0 : q_X6_adds_0.all (mm_ok 141) = true := by decide +kernel
theorem ok_X6_adds_1 : q_X6_adds_1.all (mm_ok 141) = true := by decide +kernel
theorem ok_X6_adds : ∀ c ∈ q_X6_adds, c.all (mm_ok 141) = true := by
  intro c hc
  simp only [q_X6_adds, List.mem_cons, List.not_mem_nil, or_false] at hc
  rcases hc with rfl | rfl
  · exact ok_X6_adds_0
  · exact ok_X6_adds_1
theorem ok_X6_court_0 : q_X6_court_0.all (mm_ok 142) = true := by decide +kernel
theorem ok_X6_court_1 : q_X6_court_1.all (mm_ok 142) = true := by decide +kernel
theorem ok_X6_court : ∀ c ∈ q_X6_court, c.all (mm_ok 142) = true := by
  intro c hc
  simp only [q_X6_court, List.mem_cons, List.not_mem_nil, or_false] at hc
  rcases hc with rfl | rfl
  · exact ok_X6_court_0
  · exact ok_X6_court_1
theorem ok_X6_isRuling_0 : q_X6_isRuling_0.all (mm_ok 143) = true := by decide +kernel
theorem ok_X6_isRuling : ∀ c ∈ q_X6_isRuling, c.all (mm_ok 143) = true := by
  intro c hc
  simp only [q_X6_isRuling, List.mem_cons, List.not_mem_nil, or_false] at hc
  subst hc
  · exact ok_X6_isRuling_0
theorem ok_X6_isSet_0 : q_X6_isSet_0.all (mm_ok 144) = true := by decide +kernel
theorem ok_X6_isSet : ∀ c ∈ q_X6_isSet, c.all (mm_ok 144) = true := by
  intro c hc
  simp only [q_X6_isSet, List.mem_cons, List.not_mem_nil, or_false] at hc
  subst hc
  · exact ok_X6_isSet_0
theorem ok_X6_citing_0 : q_X6_citing_0.all (mm_ok 145) = true := by decide +kernel
theorem ok_X6_citing : ∀ c ∈ q_X6_citing, c.all (mm_ok 145) = true := by
  intro c hc
  simp only [q_X6_citing, List.mem_cons, List.not_mem_nil, or_false] at hc
  subst hc
  · exact ok_X6_citing_0
theorem ok_X6_told_0 : q_X6_told_0.all (mm_ok 146) = true := by decide +kernel
theorem ok_X6_told_1 : q_X6_told_1.all (mm_ok 146) = true := by decide +kernel
theorem ok_X6_told : ∀ c ∈ q_X6_told, c.all (mm_ok 146) = true := by
  intro c hc
  simp only [q_X6_told, List.mem_cons, List.not_mem_nil, or_false] at hc
  rcases hc with rfl | rfl
  · exact ok_X6_told_0
  · exact ok_X6_told_1
theorem ok_X6_ruling_0 : q_X6_ruling_0.all (mm_ok 147) = true := by decide +kernel
theorem ok_X6_ruling : ∀ c ∈ q_X6_ruling, c.all (mm_ok 147) = true := by
  intro c hc
  simp only [q_X6_ruling, List.mem_cons, List.not_mem_nil, or_false] at hc
  subst hc
  · exact ok_X6_ruling_0
theorem ok_X6_isOf_0 : q_X6_isOf_0.all (mm_ok 148) = true := by decide +kernel
theorem ok_X6_isOf : ∀ c ∈ q_X6_isOf, c.all (mm_ok 148) = true := by
  intro c hc
  simp only [q_X6_isOf, List.mem_cons, List.not_mem_nil, or_false] at hc
  subst hc
  · exact ok_X6_isOf_0
theorem ok_X6_depends_0 : q_X6_depends_0.all (mm_ok 149) = true := by decide +kernel
theorem ok_X6_depends : ∀ c ∈ q_X6_depends, c.all (mm_ok 149) = true := by
  intro c hc
  simp only [q_X6_depends, List.mem_cons, List.not_mem_nil, or_false] at hc
  subst hc
  · exact ok_X6_depends_0
theorem ok_X6_ofItsDay_0 : q_X6_ofItsDay_0.all (mm_ok 150) = true := by decide +kernel
theorem ok_X6_ofItsDay : ∀ c ∈ q_X6_ofItsDay, c.all (mm_ok 150) = true := by
  intro c hc
  simp only [q_X6_ofItsDay, List.mem_cons, List.not_mem_nil, or_false] at hc
  subst hc
  · exact ok_X6_ofItsDay_0
theorem ok_X6_mark_0 : q_X6_mark_0.all (mm_ok 151) = true := by decide +kernel
theorem ok_X6_mark_1 : q_X6_mark_1.all (mm_ok 151) = true := by decide +kernel
theorem ok_X6_mark : ∀ c ∈ q_X6_mark, c.all (mm_ok 151) = true := by
  intro c hc
  simp only [q_X6_mark, List.mem_cons, List.not_mem_nil, or_false] at hc
  rcases hc with rfl | rfl
  · exact ok_X6_mark_0
  · exact ok_X6_mark_1
theorem ok_X6_reverse_0 : q_X6_reverse_0.all (mm_ok 152) = true := by decide +kernel
theorem ok_X6_reverse : ∀ c ∈ q_X6_reverse, c.all (mm_ok 152) = true := by
  intro c hc
  simp only [q_X6_reverse, List.mem_cons, List.not_mem_nil, or_false] at hc
  subst hc
  · exact ok_X6_reverse_0
theorem ok_X6_marks_0 : q_X6_marks_0.all (mm_ok 153) = true := by decide +kernel
theorem ok_X6_marks : ∀ c ∈ q_X6_marks, c.all (mm_ok 153) = true := by
  intro c hc
  simp only [q_X6_marks, List.mem_cons, List.not_mem_nil, or_false] at hc
  subst hc
  · exact ok_X6_marks_0
theorem ok_X6_file_0 : q_X6_file_0.all (mm_ok 154) = true := by decide +kernel
theorem ok_X6_file_1 : q_X6_file_1.all (mm_ok 154) = true := by decide +kernel
theorem ok_X6_file_2 : q_X6_file_2.all (mm_ok 154) = true := by decide +kernel
theorem ok_X6_file : ∀ c ∈ q_X6_file, c.all (mm_ok 154) = true := by
  intro c hc
  simp only [q_X6_file, List.mem_cons, List.not_mem_nil, or_false] at hc
  rcases hc with rfl | rfl | rfl
  · exact ok_X6_file_0
  · exact ok_X6_file_1
  · exact ok_X6_file_2
theorem ok_X6_strike_0 : q_X6_strike_0.all (mm_ok 155) = true := by decide +kernel
theorem ok_X6_strike_1 : q_X6_strike_1.all (mm_ok 155) = true := by decide +kernel
theorem ok_X6_strike : ∀ c ∈ q_X6_strike, c.all (mm_ok 155) = true := by
  intro c hc
  simp only [q_X6_strike, List.mem_cons, List.not_mem_nil, or_false] at hc
  rcases hc with rfl | rfl
  · exact ok_X6_strike_0
  · exact ok_X6_strike_1
theorem ok_X6_keep_0 : q_X6_keep_0.all (mm_ok 156) = true := by decide +kernel
theorem ok_X6_keep_1 : q_X6_keep_1.all (mm_ok 156) = true := by decide +kernel
theorem ok_X6_keep : ∀ c ∈ q_X6_keep, c.all (mm_ok 156) = true := by
  intro c hc
  simp only [q_X6_keep, List.mem_cons, List.not_mem_nil, or_false] at hc
  rcases hc with rfl | rfl
  · exact ok_X6_keep_0
  · exact ok_X6_keep_1
theorem ok_X6_on_0 : q_X6_on_0.all (mm_ok 157) = true := by decide +kernel
theorem ok_X6_on_1 : q_X6_on_1.all (mm_ok 157) = true := by decide +kernel
theorem ok_X6_on_2 : q_X6_on_2.all (mm_ok 157) = true := by decide +kernel
theorem ok_X6_on : ∀ c ∈ q_X6_on, c.all (mm_ok 157) = true := by
  intro c hc
  simp only [q_X6_on, List.mem_cons, List.not_mem_nil, or_false] at hc
  rcases hc with rfl | rfl | rfl
  · exact ok_X6_on_0
  · exact ok_X6_on_1
  · exact ok_X6_on_2
theorem ok_X6_all_0 : q_X6_all_0.all (mm_ok 158) = true := by decide +kernel
theorem ok_X6_all : ∀ c ∈ q_X6_all, c.all (mm_ok 158) = true := by
  intro c hc
  simp only [q_X6_all, List.mem_cons, List.not_mem_nil, or_false] at hc
  subst hc
  · exact ok_X6_all_0
theorem ok_X6_isDue_0 : q_X6_isDue_0.all (mm_ok 159) = true := by decide +kernel
theorem ok_X6_isDue_1 : q_X6_isDue_1.all (mm_ok 159) = true := by decide +kernel
theorem ok_X6_isDue_2 : q_X6_isDue_2.all (mm_ok 159) = true := by decide +kernel
theorem ok_X6_isDue_3 : q_X6_isDue_3.all (mm_ok 159) = true := by decide +kernel
theorem ok_X6_isDue_4 : q_X6_isDue_4.all (mm_ok 159) = true := by decide +kernel
theorem ok_X6_isDue : ∀ c ∈ q_X6_isDue, c.all (mm_ok 159) = true := by
  intro c hc
  simp only [q_X6_isDue, List.mem_cons, List.not_mem_nil, or_false] at hc
  rcases hc with rfl | rfl | rfl | rfl | rfl
  · exact ok_X6_isDue_0
  · exact ok_X6_isDue_1
  · exact ok_X6_isDue_2
  · exact ok_X6_isDue_3
  · exact ok_X6_isDue_4
theorem ok_X6_dueBy_0 : q_X6_dueBy_0.all (mm_ok 160) = true := by decide +kernel
theorem ok_X6_dueBy_1 : q_X6_dueBy_1.all (mm_ok 160) = true := by decide +kernel
theorem ok_X6_dueBy : ∀ c ∈ q_X6_dueBy, c.all (mm_ok 160) = true := by
  intro c hc
  simp only [q_X6_dueBy, List.mem_cons, List.not_mem_nil, or_false] at hc
  rcases hc with rfl | rfl
  · exact ok_X6_dueBy_0
  · exact ok_X6_dueBy_1
theorem ok_X6_isWay_0 : q_X6_isWay_0.all (mm_ok 161) = true := by decide +kernel
theorem ok_X6_isWay : ∀ c ∈ q_X6_isWay, c.all (mm_ok 161) = true := by
  intro c hc
  simp only [q_X6_isWay, List.mem_cons, List.not_mem_nil, or_false] at hc
  subst hc
  · exact ok_X6_isWay_0
theorem ok_X6_due_0 : q_X6_due_0.all (mm_ok 162) = true := by decide +kernel
theorem ok_X6_due : ∀ c ∈ q_X6_due, c.all (mm_ok 162) = true := by
  intro c hc
  simp only [q_X6_due, List.mem_cons, List.not_mem_nil, or_false] at hc
  subst hc
  · exact ok_X6_due_0
theorem ok_X6_wayMany_0 : q_X6_wayMany_0.all (mm_ok 163) = true := by decide +kernel
theorem ok_X6_wayMany : ∀ c ∈ q_X6_wayMany, c.all (mm_ok 163) = true := by
  intro c hc
  simp only [q_X6_wayMany, List.mem_cons, List.not_mem_nil, or_false] at hc
  subst hc
  · exact ok_X6_wayMany_0
theorem ok_X6_firstWay_0 : q_X6_firstWay_0.all (mm_ok 164) = true := by decide +kernel
theorem ok_X6_firstWay : ∀ c ∈ q_X6_firstWay, c.all (mm_ok 164) = true := by
  intro c hc
  simp only [q_X6_firstWay, List.mem_cons, List.not_mem_nil, or_false] at hc
  subst hc
  · exact ok_X6_firstWay_0
theorem ok_X6_standsIn_0 : q_X6_standsIn_0.all (mm_ok 165) = true := by decide +kernel
theorem ok_X6_standsIn : ∀ c ∈ q_X6_standsIn, c.all (mm_ok 165) = true := by
  intro c hc
  simp only [q_X6_standsIn, List.mem_cons, List.not_mem_nil, or_false] at hc
  subst hc
  · exact ok_X6_standsIn_0
theorem ok_X6_ways_0 : q_X6_ways_0.all (mm_ok 166) = true := by decide +kernel
theorem ok_X6_ways : ∀ c ∈ q_X6_ways, c.all (mm_ok 166) = true := by
  intro c hc
  simp only [q_X6_ways, List.mem_cons, List.not_mem_nil, or_false] at hc
  subst hc
  · exact ok_X6_ways_0
theorem ok_X6_nth_0 : q_X6_nth_0.all (mm_ok 167) = true := by decide +kernel
theorem ok_X6_nth : ∀ c ∈ q_X6_nth, c.all (mm_ok 167) = true := by
  intro c hc
  simp only [q_X6_nth, List.mem_cons, List.not_mem_nil, or_false] at hc
  subst hc
  · exact ok_X6_nth_0
theorem ok_X6_findsSure_0 : q_X6_findsSure_0.all (mm_ok 168) = true := by decide +kernel
theorem ok_X6_findsSure_1 : q_X6_findsSure_1.all (mm_ok 168) = true := by decide +kernel
theorem ok_X6_findsSure : ∀ c ∈ q_X6_findsSure, c.all (mm_ok 168) = true := by
  intro c hc
  simp only [q_X6_findsSure, List.mem_cons, List.not_mem_nil, or_false] at hc
  rcases hc with rfl | rfl
  · exact ok_X6_findsSure_0
  · exact ok_X6_findsSure_1
theorem ok_X6_sure_0 : q_X6_sure_0.all (mm_ok 169) = true := by decide +kernel
theorem ok_X6_sure : ∀ c ∈ q_X6_sure, c.all (mm_ok 169) = true := by
  intro c hc
  simp only [q_X6_sure, List.mem_cons, List.not_mem_nil, or_false] at hc
  subst hc
  · exact ok_X6_sure_0
theorem ok_X6_odds_0 : q_X6_odds_0.all (mm_ok 170) = true := by decide +kernel
theorem ok_X6_odds_1 : q_X6_odds_1.all (mm_ok 170) = true := by decide +kernel
theorem ok_X6_odds : ∀ c ∈ q_X6_odds, c.all (mm_ok 170) = true := by
  intro c hc
  simp only [q_X6_odds, List.mem_cons, List.not_mem_nil, or_false] at hc
  rcases hc with rfl | rfl
  · exact ok_X6_odds_0
  · exact ok_X6_odds_1
theorem ok_X6_together_0 : q_X6_together_0.all (mm_ok 171) = true := by decide +kernel
theorem ok_X6_together_1 : q_X6_together_1.all (mm_ok 171) = true := by decide +kernel
theorem ok_X6_together : ∀ c ∈ q_X6_together, c.all (mm_ok 171) = true := by
  intro c hc
  simp only [q_X6_together, List.mem_cons, List.not_mem_nil, or_false] at hc
  rcases hc with rfl | rfl
  · exact ok_X6_together_0
  · exact ok_X6_together_1
theorem ok_X6_upTo_0 : q_X6_upTo_0.all (mm_ok 172) = true := by decide +kernel
theorem ok_X6_upTo : ∀ c ∈ q_X6_upTo, c.all (mm_ok 172) = true := by
  intro c hc
  simp only [q_X6_upTo, List.mem_cons, List.not_mem_nil, or_false] at hc
  subst hc
  · exact ok_X6_upTo_0
theorem ok_X6_till_0 : q_X6_till_0.all (mm_ok 173) = true := by decide +kernel
theorem ok_X6_till : ∀ c ∈ q_X6_till, c.all (mm_ok 173) = true := by
  intro c hc
  simp only [q_X6_till, List.mem_cons, List.not_mem_nil, or_false] at hc
  subst hc
  · exact ok_X6_till_0
theorem ok_X6_flips_0 : q_X6_flips_0.all (mm_ok 174) = true := by decide +kernel
theorem ok_X6_flips_1 : q_X6_flips_1.all (mm_ok 174) = true := by decide +kernel
theorem ok_X6_flips : ∀ c ∈ q_X6_flips, c.all (mm_ok 174) = true := by
  intro c hc
  simp only [q_X6_flips, List.mem_cons, List.not_mem_nil, or_false] at hc
  rcases hc with rfl | rfl
  · exact ok_X6_flips_0
  · exact ok_X6_flips_1
theorem ok_X6_jam_0 : q_X6_jam_0.all (mm_ok 175) = true := by decide +kernel
theorem ok_X6_jam : ∀ c ∈ q_X6_jam, c.all (mm_ok 175) = true := by
  intro c hc
  simp only [q_X6_jam, List.mem_cons, List.not_mem_nil, or_false] at hc
  subst hc
  · exact ok_X6_jam_0
theorem ok_X6_isReached_0 : q_X6_isReached_0.all (mm_ok 176) = true := by decide +kernel
theorem ok_X6_isReached : ∀ c ∈ q_X6_isReached, c.all (mm_ok 176) = true := by
  intro c hc
  simp only [q_X6_isReached, List.mem_cons, List.not_mem_nil, or_false] at hc
  subst hc
  · exact ok_X6_isReached_0
theorem ok_X6_power_0 : q_X6_power_0.all (mm_ok 177) = true := by decide +kernel
theorem ok_X6_power : ∀ c ∈ q_X6_power, c.all (mm_ok 177) = true := by
  intro c hc
  simp only [q_X6_power, List.mem_cons, List.not_mem_nil, or_false] at hc
  subst hc
  · exact ok_X6_power_0
theorem ok_X6_strikes_0 : q_X6_strikes_0.all (mm_ok 178) = true := by decide +kernel
theorem ok_X6_strikes_1 : q_X6_strikes_1.all (mm_ok 178) = true := by decide +kernel
theorem ok_X6_strikes : ∀ c ∈ q_X6_strikes, c.all (mm_ok 178) = true := by
  intro c hc
  simp only [q_X6_strikes, List.mem_cons, List.not_mem_nil, or_false] at hc
  rcases hc with rfl | rfl
  · exact ok_X6_strikes_0
  · exact ok_X6_strikes_1
theorem ok_X6_files_0 : q_X6_files_0.all (mm_ok 179) = true := by decide +kernel
theorem ok_X6_files_1 : q_X6_files_1.all (mm_ok 179) = true := by decide +kernel
theorem ok_X6_files : ∀ c ∈ q_X6_files, c.all (mm_ok 179) = true := by
  intro c hc
  simp only [q_X6_files, List.mem_cons, List.not_mem_nil, or_false] at hc
  rcases hc with rfl | rfl
  · exact ok_X6_files_0
  · exact ok_X6_files_1
theorem ok_X6_fell_0 : q_X6_fell_0.all (mm_ok 180) = true := by decide +kernel
theorem ok_X6_fell : ∀ c ∈ q_X6_fell, c.all (mm_ok 180) = true := by
  intro c hc
  simp only [q_X6_fell, List.mem_cons, List.not_mem_nil, or_false] at hc
  subst hc
  · exact ok_X6_fell_0
theorem ok_X6_guard_0 : q_X6_guard_0.all (mm_ok 181) = true := by decide +kernel
theorem ok_X6_guard : ∀ c ∈ q_X6_guard, c.all (mm_ok 181) = true := by
  intro c hc
  simp only [q_X6_guard, List.mem_cons, List.not_mem_nil, or_false] at hc
  subst hc
  · exact ok_X6_guard_0
theorem ok_X6_settle_0 : q_X6_settle_0.all (mm_ok 182) = true := by decide +kernel
theorem ok_X6_settle : ∀ c ∈ q_X6_settle, c.all (mm_ok 182) = true := by
  intro c hc
  simp only [q_X6_settle, List.mem_cons, List.not_mem_nil, or_false] at hc
  subst hc
  · exact ok_X6_settle_0
theorem ok_X6_otherwise_0 : q_X6_otherwise_0.all (mm_ok 183) = true := by decide +kernel
theorem ok_X6_otherwise_1 : q_X6_otherwise_1.all (mm_ok 183) = true := by decide +kernel
theorem ok_X6_otherwise : ∀ c ∈ q_X6_otherwise, c.all (mm_ok 183) = true := by
  intro c hc
  simp only [q_X6_otherwise, List.mem_cons, List.not_mem_nil, or_false] at hc
  rcases hc with rfl | rfl
  · exact ok_X6_otherwise_0
  · exact ok_X6_otherwise_1
theorem ok_X6_matter_0 : q_X6_matter_0.all (mm_ok 184) = true := by decide +kernel
theorem ok_X6_matter : ∀ c ∈ q_X6_matter, c.all (mm_ok 184) = true := by
  intro c hc
  simp only [q_X6_matter, List.mem_cons, List.not_mem_nil, or_false] at hc
  subst hc
  · exact ok_X6_matter_0
theorem ok_X6_judge_0 : q_X6_judge_0.all (mm_ok 185) = true := by decide +kernel
theorem ok_X6_judge_1 : q_X6_judge_1.all (mm_ok 185) = true := by decide +kernel
theorem ok_X6_judge_2 : q_X6_judge_2.all (mm_ok 185) = true := by decide +kernel
theorem ok_X6_judge : ∀ c ∈ q_X6_judge, c.all (mm_ok 185) = true := by
  intro c hc
  simp only [q_X6_judge, List.mem_cons, List.not_mem_nil, or_false] at hc
  rcases hc with rfl | rfl | rfl
  · exact ok_X6_judge_0
  · exact ok_X6_judge_1
  · exact ok_X6_judge_2
theorem ok_X6_likeness_0 : q_X6_likeness_0.all (mm_ok 186) = true := by decide +kernel
theorem ok_X6_likeness : ∀ c ∈ q_X6_likeness, c.all (mm_ok 186) = true := by
  intro c hc
  simp only [q_X6_likeness, List.mem_cons, List.not_mem_nil, or_false] at hc
  subst hc
  · exact ok_X6_likeness_0
theorem ok_X6_like_0 : q_X6_like_0.all (mm_ok 187) = true := by decide +kernel
theorem ok_X6_like : ∀ c ∈ q_X6_like, c.all (mm_ok 187) = true := by
  intro c hc
  simp only [q_X6_like, List.mem_cons, List.not_mem_nil, or_false] at hc
  subst hc
  · exact ok_X6_like_0
theorem ok_X6_verdictBy_0 : q_X6_verdictBy_0.all (mm_ok 188) = true := by decide +kernel
theorem ok_X6_verdictBy_1 : q_X6_verdictBy_1.all (mm_ok 188) = true := by decide +kernel
theorem ok_X6_verdictBy_2 : q_X6_verdictBy_2.all (mm_ok 188) = true := by decide +kernel
theorem ok_X6_verdictBy : ∀ c ∈ q_X6_verdictBy, c.all (mm_ok 188) = true := by
  intro c hc
  simp only [q_X6_verdictBy, List.mem_cons, List.not_mem_nil, or_false] at hc
  rcases hc with rfl | rfl | rfl
  · exact ok_X6_verdictBy_0
  · exact ok_X6_verdictBy_1
  · exact ok_X6_verdictBy_2
theorem ok_X6_verdict_0 : q_X6_verdict_0.all (mm_ok 189) = true := by decide +kernel
theorem ok_X6_verdict : ∀ c ∈ q_X6_verdict, c.all (mm_ok 189) = true := by
  intro c hc
  simp only [q_X6_verdict, List.mem_cons, List.not_mem_nil, or_false] at hc
  subst hc
  · exact ok_X6_verdict_0
theorem ok_X6_surely_0 : q_X6_surely_0.all (mm_ok 190) = true := by decide +kernel
theorem ok_X6_surely_1 : q_X6_surely_1.all (mm_ok 190) = true := by decide +kernel
theorem ok_X6_surely : ∀ c ∈ q_X6_surely, c.all (mm_ok 190) = true := by
  intro c hc
  simp only [q_X6_surely, List.mem_cons, List.not_mem_nil, or_false] at hc
  rcases hc with rfl | rfl
  · exact ok_X6_surely_0
  · exact ok_X6_surely_1
theorem ok_X6_freed_0 : q_X6_freed_0.all (mm_ok 191) = true := by decide +kernel
theorem ok_X6_freed_1 : q_X6_freed_1.all (mm_ok 191) = true := by decide +kernel
theorem ok_X6_freed : ∀ c ∈ q_X6_freed, c.all (mm_ok 191) = true := by
  intro c hc
  simp only [q_X6_freed, List.mem_cons, List.not_mem_nil, or_false] at hc
  rcases hc with rfl | rfl
  · exact ok_X6_freed_0
  · exact ok_X6_freed_1
theorem ok_X6_agrees_0 : q_X6_agrees_0.all (mm_ok 192) = true := by decide +kernel
theorem ok_X6_agrees : ∀ c ∈ q_X6_agrees, c.all (mm_ok 192) = true := by
  intro c hc
  simp only [q_X6_agrees, List.mem_cons, List.not_mem_nil, or_false] at hc
  subst hc
  · exact ok_X6_agrees_0
theorem ok_X6_code_0 : q_X6_code_0.all (mm_ok 193) = true := by decide +kernel
theorem ok_X6_code_1 : q_X6_code_1.all (mm_ok 193) = true := by decide +kernel
theorem ok_X6_code : ∀ c ∈ q_X6_code, c.all (mm_ok 193) = true := by
  intro c hc
  simp only [q_X6_code, List.mem_cons, List.not_mem_nil, or_false] at hc
  rcases hc with rfl | rfl
  · exact ok_X6_code_0
  · exact ok_X6_code_1
theorem ok_X6_kinds_0 : q_X6_kinds_0.all (mm_ok 194) = true := by decide +kernel
theorem ok_X6_kinds_1 : q_X6_kinds_1.all (mm_ok 194) = true := by decide +kernel
theorem ok_X6_kinds : ∀ c ∈ q_X6_kinds, c.all (mm_ok 194) = true := by
  intro c hc
  simp only [q_X6_kinds, List.mem_cons, List.not_mem_nil, or_false] at hc
  rcases hc with rfl | rfl
  · exact ok_X6_kinds_0
  · exact ok_X6_kinds_1
theorem ok_X6_forged_0 : q_X6_forged_0.all (mm_ok 195) = true := by decide +kernel
theorem ok_X6_forged_1 : q_X6_forged_1.all (mm_ok 195) = true := by decide +kernel
theorem ok_X6_forged_2 : q_X6_forged_2.all (mm_ok 195) = true := by decide +kernel
theorem ok_X6_forged : ∀ c ∈ q_X6_forged, c.all (mm_ok 195) = true := by
  intro c hc
  simp only [q_X6_forged, List.mem_cons, List.not_mem_nil, or_false] at hc
  rcases hc with rfl | rfl | rfl
  · exact ok_X6_forged_0
  · exact ok_X6_forged_1
  · exact ok_X6_forged_2
theorem ok_X6_torn_0 : q_X6_torn_0.all (mm_ok 196) = true := by decide +kernel
theorem ok_X6_torn_1 : q_X6_torn_1.all (mm_ok 196) = true := by decide +kernel
theorem ok_X6_torn : ∀ c ∈ q_X6_torn, c.all (mm_ok 196) = true := by
  intro c hc
  simp only [q_X6_torn, List.mem_cons, List.not_mem_nil, or_false] at hc
  rcases hc with rfl | rfl
  · exact ok_X6_torn_0
  · exact ok_X6_torn_1
theorem ok_X6_ahead_0 : q_X6_ahead_0.all (mm_ok 197) = true := by decide +kernel
theorem ok_X6_ahead : ∀ c ∈ q_X6_ahead, c.all (mm_ok 197) = true := by
  intro c hc
  simp only [q_X6_ahead, List.mem_cons, List.not_mem_nil, or_false] at hc
  subst hc
  · exact ok_X6_ahead_0
theorem ok_X6_nthAhead_0 : q_X6_nthAhead_0.all (mm_ok 198) = true := by decide +kernel
theorem ok_X6_nthAhead : ∀ c ∈ q_X6_nthAhead, c.all (mm_ok 198) = true := by
  intro c hc
  simp only [q_X6_nthAhead, List.mem_cons, List.not_mem_nil, or_false] at hc
  subst hc
  · exact ok_X6_nthAhead_0
theorem ok_X6_lots_0 : q_X6_lots_0.all (mm_ok 199) = true := by decide +kernel
theorem ok_X6_lots_1 : q_X6_lots_1.all (mm_ok 199) = true := by decide +kernel
theorem ok_X6_lots_2 : q_X6_lots_2.all (mm_ok 199) = true := by decide +kernel
theorem ok_X6_lots : ∀ c ∈ q_X6_lots, c.all (mm_ok 199) = true := by
  intro c hc
  simp only [q_X6_lots, List.mem_cons, List.not_mem_nil, or_false] at hc
  rcases hc with rfl | rfl | rfl
  · exact ok_X6_lots_0
  · exact ok_X6_lots_1
  · exact ok_X6_lots_2
theorem ok_X6_asked_0 : q_X6_asked_0.all (mm_ok 200) = true := by decide +kernel
theorem ok_X6_asked : ∀ c ∈ q_X6_asked, c.all (mm_ok 200) = true := by
  intro c hc
  simp only [q_X6_asked, List.mem_cons, List.not_mem_nil, or_false] at hc
  subst hc
  · exact ok_X6_asked_0
theorem ok_X6_upper_0 : q_X6_upper_0.all (mm_ok 201) = true := by decide +kernel
theorem ok_X6_upper : ∀ c ∈ q_X6_upper, c.all (mm_ok 201) = true := by
  intro c hc
  simp only [q_X6_upper, List.mem_cons, List.not_mem_nil, or_false] at hc
  subst hc
  · exact ok_X6_upper_0
theorem ok_X6_lower_0 : q_X6_lower_0.all (mm_ok 202) = true := by decide +kernel
theorem ok_X6_lower : ∀ c ∈ q_X6_lower, c.all (mm_ok 202) = true := by
  intro c hc
  simp only [q_X6_lower, List.mem_cons, List.not_mem_nil, or_false] at hc
  subst hc
  · exact ok_X6_lower_0
theorem ok_X6_counted_0 : q_X6_counted_0.all (mm_ok 203) = true := by decide +kernel
theorem ok_X6_counted_1 : q_X6_counted_1.all (mm_ok 203) = true := by decide +kernel
theorem ok_X6_counted_2 : q_X6_counted_2.all (mm_ok 203) = true := by decide +kernel
theorem ok_X6_counted_3 : q_X6_counted_3.all (mm_ok 203) = true := by decide +kernel
theorem ok_X6_counted : ∀ c ∈ q_X6_counted, c.all (mm_ok 203) = true := by
  intro c hc
  simp only [q_X6_counted, List.mem_cons, List.not_mem_nil, or_false] at hc
  rcases hc with rfl | rfl | rfl | rfl
  · exact ok_X6_counted_0
  · exact ok_X6_counted_1
  · exact ok_X6_counted_2
  · exact ok_X6_counted_3
theorem ok_X6_count_0 : q_X6_count_0.all (mm_ok 204) = true := by decide +kernel
theorem ok_X6_count : ∀ c ∈ q_X6_count, c.all (mm_ok 204) = true := by
  intro c hc
  simp only [q_X6_count, List.mem_cons, List.not_mem_nil, or_false] at hc
  subst hc
  · exact ok_X6_count_0
theorem ok_X6_finding_0 : q_X6_finding_0.all (mm_ok 205) = true := by decide +kernel
theorem ok_X6_finding : ∀ c ∈ q_X6_finding, c.all (mm_ok 205) = true := by
  intro c hc
  simp only [q_X6_finding, List.mem_cons, List.not_mem_nil, or_false] at hc
  subst hc
  · exact ok_X6_finding_0
theorem ok_X6_findings_0 : q_X6_findings_0.all (mm_ok 206) = true := by decide +kernel
theorem ok_X6_findings : ∀ c ∈ q_X6_findings, c.all (mm_ok 206) = true := by
  intro c hc
  simp only [q_X6_findings, List.mem_cons, List.not_mem_nil, or_false] at hc
  subst hc
  · exact ok_X6_findings_0
theorem ok_X6_digest_0 : q_X6_digest_0.all (mm_ok 207) = true := by decide +kernel
theorem ok_X6_digest_1 : q_X6_digest_1.all (mm_ok 207) = true := by decide +kernel
theorem ok_X6_digest_2 : q_X6_digest_2.all (mm_ok 207) = true := by decide +kernel
theorem ok_X6_digest_3 : q_X6_digest_3.all (mm_ok 207) = true := by decide +kernel
theorem ok_X6_digest_4 : q_X6_digest_4.all (mm_ok 207) = true := by decide +kernel
theorem ok_X6_digest_5 : q_X6_digest_5.all (mm_ok 207) = true := by decide +kernel
theorem ok_X6_digest : ∀ c ∈ q_X6_digest, c.all (mm_ok 207) = true := by
  intro c hc
  simp only [q_X6_digest, List.mem_cons, List.not_mem_nil, or_false] at hc
  rcases hc with rfl | rfl | rfl | rfl | rfl | rfl
  · exact ok_X6_digest_0
  · exact ok_X6_digest_1
  · exact ok_X6_digest_2
  · exact ok_X6_digest_3
  · exact ok_X6_digest_4
  · exact ok_X6_digest_5
theorem ok_J6_bitCount_0f7a4_0 : q_J6_bitCount_0f7a4_0.all (mm_ok 208) = true := by decide +kernel
theorem ok_J6_bitCount_0f7a4_1 : q_J6_bitCount_0f7a4_1.all (mm_ok 208) = true := by decide +kernel
theorem ok_J6_bitCount_0f7a4 : ∀ c ∈ q_J6_bitCount_0f7a4, c.all (mm_ok 208) = true := by
  intro c hc
  simp only [q_J6_bitCount_0f7a4, List.mem_cons, List.not_mem_nil, or_false] at hc
  rcases hc with rfl | rfl
  · exact ok_J6_bitCount_0f7a4_0
  · exact ok_J6_bitCount_0f7a4_1
theorem ok_L_law_0 : q_L_law_0.all (mm_ok 209) = true := by decide +kernel
theorem ok_L_law_1 : q_L_law_1.all (mm_ok 209) = true := by decide +kernel
theorem ok_L_law_2 : q_L_law_2.all (mm_ok 209) = true := by decide +kernel
theorem ok_L_law_3 : q_L_law_3.all (mm_ok 209) = true := by decide +kernel
theorem ok_L_law_4 : q_L_law_4.all (mm_ok 209) = true := by decide +kernel
theorem ok_L_law_5 : q_L_law_5.all (mm_ok 209) = true := by decide +kernel
theorem ok_L_law_6 : q_L_law_6.all (mm_ok 209) = true := by decide +kernel
theorem ok_L_law_7 : q_L_law_7.all (mm_ok 209) = true := by decide +kernel
theorem ok_L_law_8 : q_L_law_8.all (mm_ok 209) = true := by decide +kernel
theorem ok_L_law_9 : q_L_law_9.all (mm_ok 209) = true := by decide +kernel
theorem ok_L_law_10 : q_L_law_10.all (mm_ok 209) = true := by decide +kernel
theorem ok_L_law_11 : q_L_law_11.all (mm_ok 209) = true := by decide +kernel
theorem ok_L_law_12 : q_L_law_12.all (mm_ok 209) = true := by decide +kernel
theorem ok_L_law_13 : q_L_law_13.all (mm_ok 209) = true := by decide +kernel
theorem ok_L_law_14 : q_L_law_14.all (mm_ok 209) = true := by decide +kernel
theorem ok_L_law_15 : q_L_law_15.all (mm_ok 209) = true := by decide +kernel
theorem ok_L_law_16 : q_L_law_16.all (mm_ok 209) = true := by decide +kernel
theorem ok_L_law_17 : q_L_law_17.all (mm_ok 209) = true := by decide +kernel
theorem ok_L_law_18 : q_L_law_18.all (mm_ok 209) = true := by decide +kernel
theorem ok_L_law_19 : q_L_law_19.all (mm_ok 209) = true := by decide +kernel
theorem ok_L_law_20 : q_L_law_20.all (mm_ok 209) = true := by decide +kernel
theorem ok_L_law_21 : q_L_law_21.all (mm_ok 209) = true := by decide +kernel
theorem ok_L_law_22 : q_L_law_22.all (mm_ok 209) = true := by decide +kernel
theorem ok_L_law_23 : q_L_law_23.all (mm_ok 209) = true := by decide +kernel
theorem ok_L_law_24 : q_L_law_24.all (mm_ok 209) = true := by decide +kernel
theorem ok_L_law_25 : q_L_law_25.all (mm_ok 209) = true := by decide +kernel
theorem ok_L_law_26 : q_L_law_26.all (mm_ok 209) = true := by decide +kernel
theorem ok_L_law_27 : q_L_law_27.all (mm_ok 209) = true := by decide +kernel
theorem ok_L_law_28 : q_L_law_28.all (mm_ok 209) = true := by decide +kernel
theorem ok_L_law_29 : q_L_law_29.all (mm_ok 209) = true := by decide +kernel
theorem ok_L_law_30 : q_L_law_30.all (mm_ok 209) = true := by decide +kernel
theorem ok_L_law_31 : q_L_law_31.all (mm_ok 209) = true := by decide +kernel
theorem ok_L_law : ∀ c ∈ q_L_law, c.all (mm_ok 209) = true := by
  intro c hc
  simp only [q_L_law, List.mem_cons, List.not_mem_nil, or_false] at hc
  rcases hc with rfl | rfl | rfl | rfl | rfl | rfl | rfl | rfl | rfl | rfl | rfl | rfl | rfl | rfl | rfl | rfl | rfl | rfl | rfl | rfl | rfl | rfl | rfl | rfl | rfl | rfl | rfl | rfl | rfl | rfl | rfl | rfl
  · exact ok_L_law_0
  · exact ok_L_law_1
  · exact ok_L_law_2
  · exact ok_L_law_3
  · exact ok_L_law_4
  · exact ok_L_law_5
  · exact ok_L_law_6
  · exact ok_L_law_7
  · exact ok_L_law_8
  · exact ok_L_law_9
  · exact ok_L_law_10
  · exact ok_L_law_11
  · exact ok_L_law_12
  · exact ok_L_law_13
  · exact ok_L_law_14
  · exact ok_L_law_15
  · exact ok_L_law_16
  · exact ok_L_law_17
  · exact ok_L_law_18
  · exact ok_L_law_19
  · exact ok_L_law_20
  · exact ok_L_law_21
  · exact ok_L_law_22
  · exact ok_L_law_23
  · exact ok_L_law_24
  · exact ok_L_law_25
  · exact ok_L_law_26
  · exact ok_L_law_27
  · exact ok_L_law_28
  · exact ok_L_law_29
  · exact ok_L_law_30
  · exact ok_L_law_31
end
section
theorem ok_code (μ : Nat) (hμ : μ < mm_cnt) : ∀ c ∈ mm_code μ, c.all (mm_ok μ) = true := by
  have hμ : μ < 210 := hμ
  rcases Nat.lt_or_ge μ 105 with h2 | h2
  · rcases Nat.lt_or_ge μ 52 with h4 | h4
    · rcases Nat.lt_or_ge μ 26 with h6 | h6
      · rcases Nat.lt_or_ge μ 13 with h8 | h8
        · rcases Nat.lt_or_ge μ 6 with h10 | h10
          · rcases Nat.lt_or_ge μ 3 with h12 | h12
            · rcases Nat.lt_or_ge μ 1 with h14 | h14
              · have e : μ = 0 := by omega
                subst e
                exact ok_X0_init
              · rcases Nat.lt_or_ge μ 2 with h16 | h16
                · have e : μ = 1 := by omega
                  subst e
                  exact ok_X0_seat
                · have e : μ = 2 := by omega
                  subst e
                  exact ok_X0_forgetCitation
            · rcases Nat.lt_or_ge μ 4 with h14 | h14
              · have e : μ = 3 := by omega
                subst e
                exact ok_X0_isMovedByOneMore
              · rcases Nat.lt_or_ge μ 5 with h16 | h16
                · have e : μ = 4 := by omega
                  subst e
                  exact ok_X0_isToStand
                · have e : μ = 5 := by omega
                  subst e
                  exact ok_X0_clash
          · rcases Nat.lt_or_ge μ 9 with h12 | h12
            · rcases Nat.lt_or_ge μ 7 with h14 | h14
              · have e : μ = 6 := by omega
                subst e
                exact ok_X0_mattersTo
              · rcases Nat.lt_or_ge μ 8 with h16 | h16
                · have e : μ = 7 := by omega
                  subst e
                  exact ok_X1_init
                · have e : μ = 8 := by omega
                  subst e
                  exact ok_X1_has
            · rcases Nat.lt_or_ge μ 11 with h14 | h14
              · rcases Nat.lt_or_ge μ 10 with h16 | h16
                · have e : μ = 9 := by omega
                  subst e
                  exact ok_X1_everyRuling
                · have e : μ = 10 := by omega
                  subst e
                  exact ok_X1_canBeCited
              · rcases Nat.lt_or_ge μ 12 with h16 | h16
                · have e : μ = 11 := by omega
                  subst e
                  exact ok_X1_citable
                · have e : μ = 12 := by omega
                  subst e
                  exact ok_X1_add
        · rcases Nat.lt_or_ge μ 19 with h10 | h10
          · rcases Nat.lt_or_ge μ 16 with h12 | h12
            · rcases Nat.lt_or_ge μ 14 with h14 | h14
              · have e : μ = 13 := by omega
                subst e
                exact ok_X1_cutTo
              · rcases Nat.lt_or_ge μ 15 with h16 | h16
                · have e : μ = 14 := by omega
                  subst e
                  exact ok_X1_become
                · have e : μ = 15 := by omega
                  subst e
                  exact ok_X1_detail
            · rcases Nat.lt_or_ge μ 17 with h14 | h14
              · have e : μ = 16 := by omega
                subst e
                exact ok_X1_citations
              · rcases Nat.lt_or_ge μ 18 with h16 | h16
                · have e : μ = 17 := by omega
                  subst e
                  exact ok_X1_dependsOn
                · have e : μ = 18 := by omega
                  subst e
                  exact ok_X1_ofDay
          · rcases Nat.lt_or_ge μ 22 with h12 | h12
            · rcases Nat.lt_or_ge μ 20 with h14 | h14
              · have e : μ = 19 := by omega
                subst e
                exact ok_X1_othersOfItsDay
              · rcases Nat.lt_or_ge μ 21 with h16 | h16
                · have e : μ = 20 := by omega
                  subst e
                  exact ok_X1_laterThan
                · have e : μ = 21 := by omega
                  subst e
                  exact ok_X1_countOf
            · rcases Nat.lt_or_ge μ 24 with h14 | h14
              · rcases Nat.lt_or_ge μ 23 with h16 | h16
                · have e : μ = 22 := by omega
                  subst e
                  exact ok_X1_likeness
                · have e : μ = 23 := by omega
                  subst e
                  exact ok_X1_decide
              · rcases Nat.lt_or_ge μ 25 with h16 | h16
                · have e : μ = 24 := by omega
                  subst e
                  exact ok_X1_verdictsBy
                · have e : μ = 25 := by omega
                  subst e
                  exact ok_X1_agrees
      · rcases Nat.lt_or_ge μ 39 with h8 | h8
        · rcases Nat.lt_or_ge μ 32 with h10 | h10
          · rcases Nat.lt_or_ge μ 29 with h12 | h12
            · rcases Nat.lt_or_ge μ 27 with h14 | h14
              · have e : μ = 26 := by omega
                subst e
                exact ok_X2_init
              · rcases Nat.lt_or_ge μ 28 with h16 | h16
                · have e : μ = 27 := by omega
                  subst e
                  exact ok_X2_read
                · have e : μ = 28 := by omega
                  subst e
                  exact ok_X2_skipBlanks
            · rcases Nat.lt_or_ge μ 30 with h14 | h14
              · have e : μ = 29 := by omega
                subst e
                exact ok_X2_readItem
              · rcases Nat.lt_or_ge μ 31 with h16 | h16
                · have e : μ = 30 := by omega
                  subst e
                  exact ok_X2_sign
                · have e : μ = 31 := by omega
                  subst e
                  exact ok_X2_letter
          · rcases Nat.lt_or_ge μ 35 with h12 | h12
            · rcases Nat.lt_or_ge μ 33 with h14 | h14
              · have e : μ = 32 := by omega
                subst e
                exact ok_X2_figure
              · rcases Nat.lt_or_ge μ 34 with h16 | h16
                · have e : μ = 33 := by omega
                  subst e
                  exact ok_X2_readMarks
                · have e : μ = 34 := by omega
                  subst e
                  exact ok_X3_init
            · rcases Nat.lt_or_ge μ 37 with h14 | h14
              · rcases Nat.lt_or_ge μ 36 with h16 | h16
                · have e : μ = 35 := by omega
                  subst e
                  exact ok_X3_isMissing
                · have e : μ = 36 := by omega
                  subst e
                  exact ok_X3_has
              · rcases Nat.lt_or_ge μ 38 with h16 | h16
                · have e : μ = 37 := by omega
                  subst e
                  exact ok_X3_hasRun
                · have e : μ = 38 := by omega
                  subst e
                  exact ok_X3_value
        · rcases Nat.lt_or_ge μ 45 with h10 | h10
          · rcases Nat.lt_or_ge μ 42 with h12 | h12
            · rcases Nat.lt_or_ge μ 40 with h14 | h14
              · have e : μ = 39 := by omega
                subst e
                exact ok_X3_swap
              · rcases Nat.lt_or_ge μ 41 with h16 | h16
                · have e : μ = 40 := by omega
                  subst e
                  exact ok_X3_renew
                · have e : μ = 41 := by omega
                  subst e
                  exact ok_X3_remove
            · rcases Nat.lt_or_ge μ 43 with h14 | h14
              · have e : μ = 42 := by omega
                subst e
                exact ok_X3_sum
              · rcases Nat.lt_or_ge μ 44 with h16 | h16
                · have e : μ = 43 := by omega
                  subst e
                  exact ok_X3_digestFrom
                · have e : μ = 44 := by omega
                  subst e
                  exact ok_X4_init
          · rcases Nat.lt_or_ge μ 48 with h12 | h12
            · rcases Nat.lt_or_ge μ 46 with h14 | h14
              · have e : μ = 45 := by omega
                subst e
                exact ok_X4_find
              · rcases Nat.lt_or_ge μ 47 with h16 | h16
                · have e : μ = 46 := by omega
                  subst e
                  exact ok_X4_first
                · have e : μ = 47 := by omega
                  subst e
                  exact ok_X4_surelyStanding
            · rcases Nat.lt_or_ge μ 50 with h14 | h14
              · rcases Nat.lt_or_ge μ 49 with h16 | h16
                · have e : μ = 48 := by omega
                  subst e
                  exact ok_X4_surelyFalling
                · have e : μ = 49 := by omega
                  subst e
                  exact ok_X4_waysWith
              · rcases Nat.lt_or_ge μ 51 with h16 | h16
                · have e : μ = 50 := by omega
                  subst e
                  exact ok_X4_meets
                · have e : μ = 51 := by omega
                  subst e
                  exact ok_X5_init
    · rcases Nat.lt_or_ge μ 78 with h6 | h6
      · rcases Nat.lt_or_ge μ 65 with h8 | h8
        · rcases Nat.lt_or_ge μ 58 with h10 | h10
          · rcases Nat.lt_or_ge μ 55 with h12 | h12
            · rcases Nat.lt_or_ge μ 53 with h14 | h14
              · have e : μ = 52 := by omega
                subst e
                exact ok_X5_row
              · rcases Nat.lt_or_ge μ 54 with h16 | h16
                · have e : μ = 53 := by omega
                  subst e
                  exact ok_X5_lay
                · have e : μ = 54 := by omega
                  subst e
                  exact ok_X5_at
            · rcases Nat.lt_or_ge μ 56 with h14 | h14
              · have e : μ = 55 := by omega
                subst e
                exact ok_X5_tear
              · rcases Nat.lt_or_ge μ 57 with h16 | h16
                · have e : μ = 56 := by omega
                  subst e
                  exact ok_X5_copy
                · have e : μ = 57 := by omega
                  subst e
                  exact ok_X5_mean
          · rcases Nat.lt_or_ge μ 61 with h12 | h12
            · rcases Nat.lt_or_ge μ 59 with h14 | h14
              · have e : μ = 58 := by omega
                subst e
                exact ok_X5_text
              · rcases Nat.lt_or_ge μ 60 with h16 | h16
                · have e : μ = 59 := by omega
                  subst e
                  exact ok_X5_put
                · have e : μ = 60 := by omega
                  subst e
                  exact ok_X5_fault
            · rcases Nat.lt_or_ge μ 63 with h14 | h14
              · rcases Nat.lt_or_ge μ 62 with h16 | h16
                · have e : μ = 61 := by omega
                  subst e
                  exact ok_X5_court
                · have e : μ = 62 := by omega
                  subst e
                  exact ok_X5_ruling
              · rcases Nat.lt_or_ge μ 64 with h16 | h16
                · have e : μ = 63 := by omega
                  subst e
                  exact ok_X5_mark
                · have e : μ = 64 := by omega
                  subst e
                  exact ok_X5_reverse
        · rcases Nat.lt_or_ge μ 71 with h10 | h10
          · rcases Nat.lt_or_ge μ 68 with h12 | h12
            · rcases Nat.lt_or_ge μ 66 with h14 | h14
              · have e : μ = 65 := by omega
                subst e
                exact ok_X5_marks
              · rcases Nat.lt_or_ge μ 67 with h16 | h16
                · have e : μ = 66 := by omega
                  subst e
                  exact ok_X5_file
                · have e : μ = 67 := by omega
                  subst e
                  exact ok_X5_strike
            · rcases Nat.lt_or_ge μ 69 with h14 | h14
              · have e : μ = 68 := by omega
                subst e
                exact ok_X5_keep
              · rcases Nat.lt_or_ge μ 70 with h16 | h16
                · have e : μ = 69 := by omega
                  subst e
                  exact ok_X5_on
                · have e : μ = 70 := by omega
                  subst e
                  exact ok_X5_due
          · rcases Nat.lt_or_ge μ 74 with h12 | h12
            · rcases Nat.lt_or_ge μ 72 with h14 | h14
              · have e : μ = 71 := by omega
                subst e
                exact ok_X5_ways
              · rcases Nat.lt_or_ge μ 73 with h16 | h16
                · have e : μ = 72 := by omega
                  subst e
                  exact ok_X5_nth
                · have e : μ = 73 := by omega
                  subst e
                  exact ok_X5_sure
            · rcases Nat.lt_or_ge μ 76 with h14 | h14
              · rcases Nat.lt_or_ge μ 75 with h16 | h16
                · have e : μ = 74 := by omega
                  subst e
                  exact ok_X5_odds
                · have e : μ = 75 := by omega
                  subst e
                  exact ok_X5_together
              · rcases Nat.lt_or_ge μ 77 with h16 | h16
                · have e : μ = 76 := by omega
                  subst e
                  exact ok_X5_till
                · have e : μ = 77 := by omega
                  subst e
                  exact ok_X5_flips
      · rcases Nat.lt_or_ge μ 91 with h8 | h8
        · rcases Nat.lt_or_ge μ 84 with h10 | h10
          · rcases Nat.lt_or_ge μ 81 with h12 | h12
            · rcases Nat.lt_or_ge μ 79 with h14 | h14
              · have e : μ = 78 := by omega
                subst e
                exact ok_X5_jam
              · rcases Nat.lt_or_ge μ 80 with h16 | h16
                · have e : μ = 79 := by omega
                  subst e
                  exact ok_X5_fell
                · have e : μ = 80 := by omega
                  subst e
                  exact ok_X5_guard
            · rcases Nat.lt_or_ge μ 82 with h14 | h14
              · have e : μ = 81 := by omega
                subst e
                exact ok_X5_settle
              · rcases Nat.lt_or_ge μ 83 with h16 | h16
                · have e : μ = 82 := by omega
                  subst e
                  exact ok_X5_matter
                · have e : μ = 83 := by omega
                  subst e
                  exact ok_X5_judge
          · rcases Nat.lt_or_ge μ 87 with h12 | h12
            · rcases Nat.lt_or_ge μ 85 with h14 | h14
              · have e : μ = 84 := by omega
                subst e
                exact ok_X5_like
              · rcases Nat.lt_or_ge μ 86 with h16 | h16
                · have e : μ = 85 := by omega
                  subst e
                  exact ok_X5_verdict
                · have e : μ = 86 := by omega
                  subst e
                  exact ok_X5_surely
            · rcases Nat.lt_or_ge μ 89 with h14 | h14
              · rcases Nat.lt_or_ge μ 88 with h16 | h16
                · have e : μ = 87 := by omega
                  subst e
                  exact ok_X5_freed
                · have e : μ = 88 := by omega
                  subst e
                  exact ok_X5_code
              · rcases Nat.lt_or_ge μ 90 with h16 | h16
                · have e : μ = 89 := by omega
                  subst e
                  exact ok_X5_kinds
                · have e : μ = 90 := by omega
                  subst e
                  exact ok_X5_forged
        · rcases Nat.lt_or_ge μ 98 with h10 | h10
          · rcases Nat.lt_or_ge μ 94 with h12 | h12
            · rcases Nat.lt_or_ge μ 92 with h14 | h14
              · have e : μ = 91 := by omega
                subst e
                exact ok_X5_torn
              · rcases Nat.lt_or_ge μ 93 with h16 | h16
                · have e : μ = 92 := by omega
                  subst e
                  exact ok_X5_lots
                · have e : μ = 93 := by omega
                  subst e
                  exact ok_X5_asked
            · rcases Nat.lt_or_ge μ 96 with h14 | h14
              · rcases Nat.lt_or_ge μ 95 with h16 | h16
                · have e : μ = 94 := by omega
                  subst e
                  exact ok_X5_upper
                · have e : μ = 95 := by omega
                  subst e
                  exact ok_X5_lower
              · rcases Nat.lt_or_ge μ 97 with h16 | h16
                · have e : μ = 96 := by omega
                  subst e
                  exact ok_X5_count
                · have e : μ = 97 := by omega
                  subst e
                  exact ok_X5_finding
          · rcases Nat.lt_or_ge μ 101 with h12 | h12
            · rcases Nat.lt_or_ge μ 99 with h14 | h14
              · have e : μ = 98 := by omega
                subst e
                exact ok_X5_findings
              · rcases Nat.lt_or_ge μ 100 with h16 | h16
                · have e : μ = 99 := by omega
                  subst e
                  exact ok_X5_digest
                · have e : μ = 100 := by omega
                  subst e
                  exact ok_X5_within
            · rcases Nat.lt_or_ge μ 103 with h14 | h14
              · rcases Nat.lt_or_ge μ 102 with h16 | h16
                · have e : μ = 101 := by omega
                  subst e
                  exact ok_X5_holds
                · have e : μ = 102 := by omega
                  subst e
                  exact ok_X5_isOfKind
              · rcases Nat.lt_or_ge μ 104 with h16 | h16
                · have e : μ = 103 := by omega
                  subst e
                  exact ok_X5_greatestDivisor
                · have e : μ = 104 := by omega
                  subst e
                  exact ok_X5_refuse
  · rcases Nat.lt_or_ge μ 157 with h4 | h4
    · rcases Nat.lt_or_ge μ 131 with h6 | h6
      · rcases Nat.lt_or_ge μ 118 with h8 | h8
        · rcases Nat.lt_or_ge μ 111 with h10 | h10
          · rcases Nat.lt_or_ge μ 108 with h12 | h12
            · rcases Nat.lt_or_ge μ 106 with h14 | h14
              · have e : μ = 105 := by omega
                subst e
                exact ok_X5_tell
              · rcases Nat.lt_or_ge μ 107 with h16 | h16
                · have e : μ = 106 := by omega
                  subst e
                  exact ok_X5_renewed
                · have e : μ = 107 := by omega
                  subst e
                  exact ok_X5_refusalOfPlace
            · rcases Nat.lt_or_ge μ 109 with h14 | h14
              · have e : μ = 108 := by omega
                subst e
                exact ok_X5_isKept
              · rcases Nat.lt_or_ge μ 110 with h16 | h16
                · have e : μ = 109 := by omega
                  subst e
                  exact ok_X5_findWays
                · have e : μ = 110 := by omega
                  subst e
                  exact ok_X5_fewest
          · rcases Nat.lt_or_ge μ 114 with h12 | h12
            · rcases Nat.lt_or_ge μ 112 with h14 | h14
              · have e : μ = 111 := by omega
                subst e
                exact ok_X5_canReach
              · rcases Nat.lt_or_ge μ 113 with h16 | h16
                · have e : μ = 112 := by omega
                  subst e
                  exact ok_X5_changedWithout
                · have e : μ = 113 := by omega
                  subst e
                  exact ok_X5_fileByLot
            · rcases Nat.lt_or_ge μ 116 with h14 | h14
              · rcases Nat.lt_or_ge μ 115 with h16 | h16
                · have e : μ = 114 := by omega
                  subst e
                  exact ok_X5_countOf
                · have e : μ = 115 := by omega
                  subst e
                  exact ok_X5_there
              · rcases Nat.lt_or_ge μ 117 with h16 | h16
                · have e : μ = 116 := by omega
                  subst e
                  exact ok_X6_init
                · have e : μ = 117 := by omega
                  subst e
                  exact ok_X6_in
        · rcases Nat.lt_or_ge μ 124 with h10 | h10
          · rcases Nat.lt_or_ge μ 121 with h12 | h12
            · rcases Nat.lt_or_ge μ 119 with h14 | h14
              · have e : μ = 118 := by omega
                subst e
                exact ok_X6_has
              · rcases Nat.lt_or_ge μ 120 with h16 | h16
                · have e : μ = 119 := by omega
                  subst e
                  exact ok_X6_ones
                · have e : μ = 120 := by omega
                  subst e
                  exact ok_X6_finds
            · rcases Nat.lt_or_ge μ 122 with h14 | h14
              · have e : μ = 121 := by omega
                subst e
                exact ok_X6_tells
              · rcases Nat.lt_or_ge μ 123 with h16 | h16
                · have e : μ = 122 := by omega
                  subst e
                  exact ok_X6_isRow
                · have e : μ = 123 := by omega
                  subst e
                  exact ok_X6_isText
          · rcases Nat.lt_or_ge μ 127 with h12 | h12
            · rcases Nat.lt_or_ge μ 125 with h14 | h14
              · have e : μ = 124 := by omega
                subst e
                exact ok_X6_row
              · rcases Nat.lt_or_ge μ 126 with h16 | h16
                · have e : μ = 125 := by omega
                  subst e
                  exact ok_X6_lay
                · have e : μ = 126 := by omega
                  subst e
                  exact ok_X6_at
            · rcases Nat.lt_or_ge μ 129 with h14 | h14
              · rcases Nat.lt_or_ge μ 128 with h16 | h16
                · have e : μ = 127 := by omega
                  subst e
                  exact ok_X6_tear
                · have e : μ = 128 := by omega
                  subst e
                  exact ok_X6_isPart
              · rcases Nat.lt_or_ge μ 130 with h16 | h16
                · have e : μ = 129 := by omega
                  subst e
                  exact ok_X6_copy
                · have e : μ = 130 := by omega
                  subst e
                  exact ok_X6_mean
      · rcases Nat.lt_or_ge μ 144 with h8 | h8
        · rcases Nat.lt_or_ge μ 137 with h10 | h10
          · rcases Nat.lt_or_ge μ 134 with h12 | h12
            · rcases Nat.lt_or_ge μ 132 with h14 | h14
              · have e : μ = 131 := by omega
                subst e
                exact ok_X6_text
              · rcases Nat.lt_or_ge μ 133 with h16 | h16
                · have e : μ = 132 := by omega
                  subst e
                  exact ok_X6_put
                · have e : μ = 133 := by omega
                  subst e
                  exact ok_X6_byteAt
            · rcases Nat.lt_or_ge μ 135 with h14 | h14
              · have e : μ = 134 := by omega
                subst e
                exact ok_X6_kindOf
              · rcases Nat.lt_or_ge μ 136 with h16 | h16
                · have e : μ = 135 := by omega
                  subst e
                  exact ok_X6_figure
                · have e : μ = 136 := by omega
                  subst e
                  exact ok_X6_faults
          · rcases Nat.lt_or_ge μ 140 with h12 | h12
            · rcases Nat.lt_or_ge μ 138 with h14 | h14
              · have e : μ = 137 := by omega
                subst e
                exact ok_X6_readsCitation
              · rcases Nat.lt_or_ge μ 139 with h16 | h16
                · have e : μ = 138 := by omega
                  subst e
                  exact ok_X6_readsItem
                · have e : μ = 139 := by omega
                  subst e
                  exact ok_X6_reads
            · rcases Nat.lt_or_ge μ 142 with h14 | h14
              · rcases Nat.lt_or_ge μ 141 with h16 | h16
                · have e : μ = 140 := by omega
                  subst e
                  exact ok_X6_fault
                · have e : μ = 141 := by omega
                  subst e
                  exact ok_X6_adds
              · rcases Nat.lt_or_ge μ 143 with h16 | h16
                · have e : μ = 142 := by omega
                  subst e
                  exact ok_X6_court
                · have e : μ = 143 := by omega
                  subst e
                  exact ok_X6_isRuling
        · rcases Nat.lt_or_ge μ 150 with h10 | h10
          · rcases Nat.lt_or_ge μ 147 with h12 | h12
            · rcases Nat.lt_or_ge μ 145 with h14 | h14
              · have e : μ = 144 := by omega
                subst e
                exact ok_X6_isSet
              · rcases Nat.lt_or_ge μ 146 with h16 | h16
                · have e : μ = 145 := by omega
                  subst e
                  exact ok_X6_citing
                · have e : μ = 146 := by omega
                  subst e
                  exact ok_X6_told
            · rcases Nat.lt_or_ge μ 148 with h14 | h14
              · have e : μ = 147 := by omega
                subst e
                exact ok_X6_ruling
              · rcases Nat.lt_or_ge μ 149 with h16 | h16
                · have e : μ = 148 := by omega
                  subst e
                  exact ok_X6_isOf
                · have e : μ = 149 := by omega
                  subst e
                  exact ok_X6_depends
          · rcases Nat.lt_or_ge μ 153 with h12 | h12
            · rcases Nat.lt_or_ge μ 151 with h14 | h14
              · have e : μ = 150 := by omega
                subst e
                exact ok_X6_ofItsDay
              · rcases Nat.lt_or_ge μ 152 with h16 | h16
                · have e : μ = 151 := by omega
                  subst e
                  exact ok_X6_mark
                · have e : μ = 152 := by omega
                  subst e
                  exact ok_X6_reverse
            · rcases Nat.lt_or_ge μ 155 with h14 | h14
              · rcases Nat.lt_or_ge μ 154 with h16 | h16
                · have e : μ = 153 := by omega
                  subst e
                  exact ok_X6_marks
                · have e : μ = 154 := by omega
                  subst e
                  exact ok_X6_file
              · rcases Nat.lt_or_ge μ 156 with h16 | h16
                · have e : μ = 155 := by omega
                  subst e
                  exact ok_X6_strike
                · have e : μ = 156 := by omega
                  subst e
                  exact ok_X6_keep
    · rcases Nat.lt_or_ge μ 183 with h6 | h6
      · rcases Nat.lt_or_ge μ 170 with h8 | h8
        · rcases Nat.lt_or_ge μ 163 with h10 | h10
          · rcases Nat.lt_or_ge μ 160 with h12 | h12
            · rcases Nat.lt_or_ge μ 158 with h14 | h14
              · have e : μ = 157 := by omega
                subst e
                exact ok_X6_on
              · rcases Nat.lt_or_ge μ 159 with h16 | h16
                · have e : μ = 158 := by omega
                  subst e
                  exact ok_X6_all
                · have e : μ = 159 := by omega
                  subst e
                  exact ok_X6_isDue
            · rcases Nat.lt_or_ge μ 161 with h14 | h14
              · have e : μ = 160 := by omega
                subst e
                exact ok_X6_dueBy
              · rcases Nat.lt_or_ge μ 162 with h16 | h16
                · have e : μ = 161 := by omega
                  subst e
                  exact ok_X6_isWay
                · have e : μ = 162 := by omega
                  subst e
                  exact ok_X6_due
          · rcases Nat.lt_or_ge μ 166 with h12 | h12
            · rcases Nat.lt_or_ge μ 164 with h14 | h14
              · have e : μ = 163 := by omega
                subst e
                exact ok_X6_wayMany
              · rcases Nat.lt_or_ge μ 165 with h16 | h16
                · have e : μ = 164 := by omega
                  subst e
                  exact ok_X6_firstWay
                · have e : μ = 165 := by omega
                  subst e
                  exact ok_X6_standsIn
            · rcases Nat.lt_or_ge μ 168 with h14 | h14
              · rcases Nat.lt_or_ge μ 167 with h16 | h16
                · have e : μ = 166 := by omega
                  subst e
                  exact ok_X6_ways
                · have e : μ = 167 := by omega
                  subst e
                  exact ok_X6_nth
              · rcases Nat.lt_or_ge μ 169 with h16 | h16
                · have e : μ = 168 := by omega
                  subst e
                  exact ok_X6_findsSure
                · have e : μ = 169 := by omega
                  subst e
                  exact ok_X6_sure
        · rcases Nat.lt_or_ge μ 176 with h10 | h10
          · rcases Nat.lt_or_ge μ 173 with h12 | h12
            · rcases Nat.lt_or_ge μ 171 with h14 | h14
              · have e : μ = 170 := by omega
                subst e
                exact ok_X6_odds
              · rcases Nat.lt_or_ge μ 172 with h16 | h16
                · have e : μ = 171 := by omega
                  subst e
                  exact ok_X6_together
                · have e : μ = 172 := by omega
                  subst e
                  exact ok_X6_upTo
            · rcases Nat.lt_or_ge μ 174 with h14 | h14
              · have e : μ = 173 := by omega
                subst e
                exact ok_X6_till
              · rcases Nat.lt_or_ge μ 175 with h16 | h16
                · have e : μ = 174 := by omega
                  subst e
                  exact ok_X6_flips
                · have e : μ = 175 := by omega
                  subst e
                  exact ok_X6_jam
          · rcases Nat.lt_or_ge μ 179 with h12 | h12
            · rcases Nat.lt_or_ge μ 177 with h14 | h14
              · have e : μ = 176 := by omega
                subst e
                exact ok_X6_isReached
              · rcases Nat.lt_or_ge μ 178 with h16 | h16
                · have e : μ = 177 := by omega
                  subst e
                  exact ok_X6_power
                · have e : μ = 178 := by omega
                  subst e
                  exact ok_X6_strikes
            · rcases Nat.lt_or_ge μ 181 with h14 | h14
              · rcases Nat.lt_or_ge μ 180 with h16 | h16
                · have e : μ = 179 := by omega
                  subst e
                  exact ok_X6_files
                · have e : μ = 180 := by omega
                  subst e
                  exact ok_X6_fell
              · rcases Nat.lt_or_ge μ 182 with h16 | h16
                · have e : μ = 181 := by omega
                  subst e
                  exact ok_X6_guard
                · have e : μ = 182 := by omega
                  subst e
                  exact ok_X6_settle
      · rcases Nat.lt_or_ge μ 196 with h8 | h8
        · rcases Nat.lt_or_ge μ 189 with h10 | h10
          · rcases Nat.lt_or_ge μ 186 with h12 | h12
            · rcases Nat.lt_or_ge μ 184 with h14 | h14
              · have e : μ = 183 := by omega
                subst e
                exact ok_X6_otherwise
              · rcases Nat.lt_or_ge μ 185 with h16 | h16
                · have e : μ = 184 := by omega
                  subst e
                  exact ok_X6_matter
                · have e : μ = 185 := by omega
                  subst e
                  exact ok_X6_judge
            · rcases Nat.lt_or_ge μ 187 with h14 | h14
              · have e : μ = 186 := by omega
                subst e
                exact ok_X6_likeness
              · rcases Nat.lt_or_ge μ 188 with h16 | h16
                · have e : μ = 187 := by omega
                  subst e
                  exact ok_X6_like
                · have e : μ = 188 := by omega
                  subst e
                  exact ok_X6_verdictBy
          · rcases Nat.lt_or_ge μ 192 with h12 | h12
            · rcases Nat.lt_or_ge μ 190 with h14 | h14
              · have e : μ = 189 := by omega
                subst e
                exact ok_X6_verdict
              · rcases Nat.lt_or_ge μ 191 with h16 | h16
                · have e : μ = 190 := by omega
                  subst e
                  exact ok_X6_surely
                · have e : μ = 191 := by omega
                  subst e
                  exact ok_X6_freed
            · rcases Nat.lt_or_ge μ 194 with h14 | h14
              · rcases Nat.lt_or_ge μ 193 with h16 | h16
                · have e : μ = 192 := by omega
                  subst e
                  exact ok_X6_agrees
                · have e : μ = 193 := by omega
                  subst e
                  exact ok_X6_code
              · rcases Nat.lt_or_ge μ 195 with h16 | h16
                · have e : μ = 194 := by omega
                  subst e
                  exact ok_X6_kinds
                · have e : μ = 195 := by omega
                  subst e
                  exact ok_X6_forged
        · rcases Nat.lt_or_ge μ 203 with h10 | h10
          · rcases Nat.lt_or_ge μ 199 with h12 | h12
            · rcases Nat.lt_or_ge μ 197 with h14 | h14
              · have e : μ = 196 := by omega
                subst e
                exact ok_X6_torn
              · rcases Nat.lt_or_ge μ 198 with h16 | h16
                · have e : μ = 197 := by omega
                  subst e
                  exact ok_X6_ahead
                · have e : μ = 198 := by omega
                  subst e
                  exact ok_X6_nthAhead
            · rcases Nat.lt_or_ge μ 201 with h14 | h14
              · rcases Nat.lt_or_ge μ 200 with h16 | h16
                · have e : μ = 199 := by omega
                  subst e
                  exact ok_X6_lots
                · have e : μ = 200 := by omega
                  subst e
                  exact ok_X6_asked
              · rcases Nat.lt_or_ge μ 202 with h16 | h16
                · have e : μ = 201 := by omega
                  subst e
                  exact ok_X6_upper
                · have e : μ = 202 := by omega
                  subst e
                  exact ok_X6_lower
          · rcases Nat.lt_or_ge μ 206 with h12 | h12
            · rcases Nat.lt_or_ge μ 204 with h14 | h14
              · have e : μ = 203 := by omega
                subst e
                exact ok_X6_counted
              · rcases Nat.lt_or_ge μ 205 with h16 | h16
                · have e : μ = 204 := by omega
                  subst e
                  exact ok_X6_count
                · have e : μ = 205 := by omega
                  subst e
                  exact ok_X6_finding
            · rcases Nat.lt_or_ge μ 208 with h14 | h14
              · rcases Nat.lt_or_ge μ 207 with h16 | h16
                · have e : μ = 206 := by omega
                  subst e
                  exact ok_X6_findings
                · have e : μ = 207 := by omega
                  subst e
                  exact ok_X6_digest
              · rcases Nat.lt_or_ge μ 209 with h16 | h16
                · have e : μ = 208 := by omega
                  subst e
                  exact ok_J6_bitCount_0f7a4
                · have e : μ = 209 := by omega
                  subst e
                  exact ok_L_law
end
section
/-! the law's entry, out of the mini machine -/
def mm_h0 (L : Nat) (xs : Nat → Int32) : mm_H := (2, fun k => match k with | 0 => mE L xs | 1 => mE 6 mm_let | _ => mO 99 [])
def law_says : Prop := ∀ (L : Nat) (xs : Nat → Int32), L ≤ 384 → mm_Ex 100 k_L_law 0 (600000, 7302250) [.ref 0, .null, .null, .null] [] (mm_h0 L xs) (fun r _ => r = some (.int 1))
theorem ok_mth (a : Nat) (h : a < 209) : mm_mth a = true := by
  have H : ∀ (n : Nat), n * 20 ≤ a → a < n * 20 + 20 → ((List.range (min (n * 20 + 20) 209)).drop (n * 20)).all mm_mth = true → mm_mth a = true := by
    intro n h1 h2 h3
    refine List.all_eq_true.mp h3 a ?_
    refine List.mem_of_getElem? (i := a - n * 20) ?_
    rw [List.getElem?_drop, List.getElem?_range (by omega)]
    congr 1
    omega
  have hn : a / 20 < 11 := by omega
  have h1 : a / 20 * 20 ≤ a := by omega
  have h2 : a < a / 20 * 20 + 20 := by omega
  rcases hq : a / 20 with _ | _ | _ | _ | _ | _ | _ | _ | _ | _ | _ | n
  · exact H 0 (by omega) (by omega) ok_m0
  · exact H 1 (by omega) (by omega) ok_m1
  · exact H 2 (by omega) (by omega) ok_m2
  · exact H 3 (by omega) (by omega) ok_m3
  · exact H 4 (by omega) (by omega) ok_m4
  · exact H 5 (by omega) (by omega) ok_m5
  · exact H 6 (by omega) (by omega) ok_m6
  · exact H 7 (by omega) (by omega) ok_m7
  · exact H 8 (by omega) (by omega) ok_m8
  · exact H 9 (by omega) (by omega) ok_m9
  · exact H 10 (by omega) (by omega) ok_m10
  · omega
theorem ok_all (μ : Nat) (hμ : μ < mm_cnt) (ip : Nat) (q : mm_N) (h : mm_at μ ip = some q) : mm_ok μ q = true := by
  unfold mm_at at h
  split at h
  · rename_i l e
    rw [mm_get_eq] at e h
    exact List.all_eq_true.mp (ok_code μ hμ l (List.mem_of_getElem? e)) q (List.mem_of_getElem? h)
  · cases h
/-! THE CLAIM OUT OF ONE WALK OF THE LAW'S BODY. Your part is whole_start (and what it stands on); all else here is the same for every law, but numbers. -/
def R_law : String := "BackCourtLaw"
def lw_P (b : Addr) (xs : List Int32) (args : Array Value) (s : State) : Prop := args = #[.ref b] ∧ s.IntsAt b xs ∧ xs.length ≤ 384 ∧ (Jvm.Cond.and given_1 narrow_1).before args s = true
def lw_Q (_ : Array Value) (s : State) (o : Outcome) (t : State) : Prop := o = .returned (some (.int 1)) ∧ Framed s o t [] 600000 7302250
def lw_Z (below : List Frame) (a : Array Value) (s : State) : State → Prop := fun t => ∃ o, t.status = .running ∧ Ended t below o ∧ lw_Q a s o t
/-- the law's own end, with 1 on the stack, nothing written that was there before, its room as the claim has it -/
theorem lw_ret {p : Program} {l : Launch} {e : Env} {s : State} {m : MethodId} {below : List Frame} {meth : Method} {c : Code} {b : Nat} (hx : p.tables.exec = Jvm.exec) (hb : c.code = code) (hr : meth.sig.returnType = ret) (hlocks : meth.locks = false) {pc : Nat} {H : Heap} {ls : Array Slot} (hdg : decode code pc = .ok (.ireturn, 1)) : W p l e room_1 s m #[Value.ref b] below meth c H [] 600000 7302250 (lw_Z below #[Value.ref b] s) (F0 m pc ls [.int 1]) := by
  intro T hT X
  obtain ⟨fs, hret, hrun, hended, hW, hframe⟩ := X.leave (v := some (.int 1)) (hlocks := hlocks) (fun h => by rw [hr] at h; cases h)
  have hmeth' : T.vm.method? m = some meth := X.method'
  refine ⟨T.setFrames fs, ?_, .returned (some (.int 1)), hrun, hended, rfl, ⟨_, rfl⟩, hW, hframe⟩
  jvm_step X.here [X.here.top, hx, hb, hdg, hmeth', hr, ret, narrow_b1]
  (try refine ⟨rfl, ?_⟩); (try refine ⟨rfl, ?_⟩)
  first | (intro acts; rw [hret _ acts rfl rfl rfl]) | rw [hret _ _ rfl rfl rfl]
  exact Steps.refl _
/-- what holds at the law's entry: the machine, the code, the tables' words (any of lw_tbl by 'hts w (by decide +kernel)'), the script of L ints xs at the cell b, what the Statement gives of the start (any of its parts by flat_of_before) -/
def lw_At (p : Program) (s : State) (m : MethodId) (meth : Method) (c : Code) (b L : Nat) (xs : Nat → Int32) : Prop :=
  p.tables.exec = Jvm.exec ∧ c.code = code ∧ meth.sig.returnType = ret ∧ c.maxLocals = 4 ∧ s.vm.findClass R_law = some m.cls ∧ (∀ w ∈ lw_tbl, w.before #[Value.ref b] s = true) ∧ va_X b L xs s s.heap ∧ b < s.heap.size ∧ meth.locks = false ∧ (Jvm.Cond.and given_1 narrow_1).before #[Value.ref b] s = true
-- ===== YOUR PART BEGINS =====
theorem mm_arrI {s : State} {cA : ClassId} {kA : Class} {comp : ClassId} {ty : FieldType} (h2 : s.vm.classes[cA]? = some kA) (h3 : kA.kind = .array comp ty) : ArrOfT s cA ty := fun n z => ⟨fun k h => (by cases h), kA, h2, comp, h3⟩
def mm_dC (c0 c1 c2 c3 c4 c5 c6 : ClassId) : Nat → ClassId
  | 0 => c0
  | 1 => c1
  | 2 => c2
  | 3 => c3
  | 4 => c4
  | 5 => c5
  | _ => c6
def mm_dI (c0 c1 c2 c3 c4 c5 c6 : Nat → Nat) : Nat → Nat → Nat
  | 0 => c0
  | 1 => c1
  | 2 => c2
  | 3 => c3
  | 4 => c4
  | 5 => c5
  | _ => c6
set_option maxHeartbeats 4000000 in
set_option maxRecDepth 20000 in
theorem whole_of (hlaw : law_says) {p : Program} {e : Env} {s : State} {m : MethodId} {below : List Frame} {meth : Method} {c : Code} (l : Launch) {b L : Nat} {xs : Nat → Int32} (hL : L ≤ 384) (C0 : lw_At p s m meth c b L xs) : W p l e room_1 s m #[Value.ref b] below meth c s.heap [] 0 0 (lw_Z below #[Value.ref b] s) (entryFrame m ([Value.ref b] : List Value).toArray 4) := by
  obtain ⟨hx, hb, hr, hml, hown, hts, hX, hbl, hlocks, hgv⟩ := C0
  have hgt : ∀ x ∈ mm_gt, x.before #[Value.ref b] s = true := fun x hx => hts x (List.mem_filter.mp hx).1
  have hs := flat_of_before _ hgv
  have hA : ∀ a : Nat, a < s.heap.size → ¬ (fun q : Nat => s.heap.size ≤ q) a := fun a h => Nat.not_le.mpr h
  obtain ⟨c0, i0, k0⟩ := u_known hgt (mm_uw_in mm_uw0) (n := 8) (hts _ (mm_isw_in (n := 153) (by decide +kernel)))
  obtain ⟨c1, i1, k1⟩ := u_known hgt (mm_uw_in mm_uw1) (n := 7) (hts _ (mm_isw_in (n := 74) (by decide +kernel)))
  obtain ⟨c2, i2, k2⟩ := u_known hgt (mm_uw_in mm_uw2) (n := 3) (hts _ (mm_isw_in (n := 115) (by decide +kernel)))
  obtain ⟨c3, i3, k3⟩ := u_known hgt (mm_uw_in mm_uw3) (n := 2) (hts _ (mm_isw_in (n := 123) (by decide +kernel)))
  obtain ⟨c4, i4, k4⟩ := u_known hgt (mm_uw_in mm_uw4) (n := 5) (hts _ (mm_isw_in (n := 189) (by decide +kernel)))
  obtain ⟨c5, i5, k5⟩ := u_known hgt (mm_uw_in mm_uw5) (n := 13) (hts _ (mm_isw_in (n := 64) (by decide +kernel)))
  obtain ⟨c6, i6, k6⟩ := u_known hgt (mm_uw_in mm_uw6) (n := 27) (hts _ (mm_isw_in (n := 739) (by decide +kernel)))
  have wI : (Cond.arrayClass .int).before #[Value.ref b] s = true := hts _ (mm_isw_in (n := 112) (by decide +kernel))
  have wC : (Cond.arrayOver (.object RX1)).before #[Value.ref b] s = true := hts _ (mm_isw_in (n := 113) (by decide +kernel))
  have wR : (Cond.arrayOver (.object RX3)).before #[Value.ref b] s = true := hts _ (mm_isw_in (n := 72) (by decide +kernel))
  obtain ⟨cI, kI, cmI, a1, a2, a3⟩ := Cond.arrayClass_spec wI
  obtain ⟨cmC, cC, kC, b1, -, b2, b3, b4⟩ := Cond.arrayOver_spec wC
  obtain ⟨cmR, cR, kR, r1, -, r2, r3, r4⟩ := Cond.arrayOver_spec wR
  obtain ⟨t, ht, hTt⟩ := va_Tof (args := #[Value.ref b]) (s := s) (tm := .static RX5 "LETTERS" "[I") (ty := .int) (N := 6) (f := fun j => .int (mm_let j)) (A := fun q : Nat => s.heap.size ≤ q) (by decide) (hs _ (by decide +kernel)) (va_eqt (hs _ (by decide +kernel))) (fun j hj => by
    rcases j with _ | _ | _ | _ | _ | _ | j
    · exact va_eqt (z := 114) (hs _ (by decide +kernel))
    · exact va_eqt (z := 98) (hs _ (by decide +kernel))
    · exact va_eqt (z := 102) (hs _ (by decide +kernel))
    · exact va_eqt (z := 117) (hs _ (by decide +kernel))
    · exact va_eqt (z := 99) (hs _ (by decide +kernel))
    · exact va_eqt (z := 107) (hs _ (by decide +kernel))
    · omega) hA
  have htl : t < s.heap.size := by
    obtain ⟨cell, h1, -⟩ := hTt
    exact (Array.getElem?_eq_some_iff.mp h1).1
  have hZ : va_Z RX5 "LETTERS" "[I" (.ref t) (fun q : Nat => s.heap.size ≤ q) s s.heap := va_Zof (hts _ (mm_isw_in (n := 376) (by decide +kernel))) (hts _ (mm_isw_in (n := 53) (by decide +kernel))) ht hA
  let g : mm_G := ((mm_dC c0 c1 c2 c3 c4 c5 c6, mm_dI i0 i1 i2 i3 i4 i5 i6), (cI, cC, cR), (b, t, L, s.heap.size), xs)
  have hT : mm_T g s s.heap := by
    refine ⟨⟨fun c q hq => ?_, fun k q hq => ?_⟩, fun x hx hn => va_Nw.of (mm_nest_tab hn) (hts x hx), va_AO.of wC, va_AO.of wR, hZ, hTt, hX, htl, hbl, Nat.le_refl _⟩
    · rcases c with _ | _ | _ | _ | _ | _ | _ | c
      · cases hq; exact k0
      · cases hq; exact k1
      · cases hq; exact k2
      · cases hq; exact k3
      · cases hq; exact k4
      · cases hq; exact k5
      · cases hq; exact k6
      · cases hq
    · rcases k with _ | _ | _ | k
      · cases hq; exact ⟨mm_arrI a2 a3, a1⟩
      · cases hq; exact ⟨mm_arrI b2 b3, kC, cmC, b2, b3, b1, b4⟩
      · cases hq; exact ⟨mm_arrI r2 r3, kR, cmR, r2, r3, r1, r4⟩
      · cases hq
  have hR : mm_R g s.heap (mm_h0 L xs) := by
    refine ⟨fun _ => rfl, Nat.le_refl _, rfl, rfl, fun k hk => ?_, fun k q hq => ?_⟩
    · have hk' : 2 ≤ k := hk
      rcases k with _ | _ | k
      · omega
      · omega
      · rfl
    · cases hq
  rw [lg_entry_eq]
  have hent := mm_L.entry g (args := [Value.ref 0]) (n := 4) rfl (by decide)
  refine mm_sound l g ok_all ok_mth (hlaw L xs hL) p e room_1 s m #[Value.ref b] below meth c s.heap [] 0 0 600000 7302250 _ _ ⟨hx, hb, hml, hown, hgt, hT, fun z => absurd z (by decide), by decide, by decide, by decide, Nat.le_refl _⟩ ?_ hR va_S.rf hent (Nat.le_refl _) (Nat.le_refl _) (Nat.le_refl _) (Nat.le_refl _) 0 (by decide +kernel)
  intro H' locs' cells' slots' pc sl r h' i hq hR' hS' hc hs' hd hk
  have hr1 : r = some (.int 1) := hq
  subst hr1
  refine va_forget (fun q hq => hS'.2.2 q hq) ?_
  refine W.widen hc hs' ?_
  rcases hk with ⟨rfl, -⟩ | ⟨-, -, x, hx9⟩ | ⟨-, -, hx9⟩
  · exact lw_ret hx hb hr hlocks hd
  · cases hx9
  · cases hx9
end
section
/-! ===== Int32 by its bits: bt x i ===== -/
def bt (x : Int32) (i : Nat) : Bool := x.toBitVec.getLsbD i
theorem b_ext {x y : Int32} (h : ∀ i, i < 32 → bt x i = bt y i) : x = y := Int32.toBitVec_inj.mp (BitVec.eq_of_getLsbD_eq (fun i hi => h i hi))
theorem b_or (x y : Int32) (i : Nat) : bt (x ||| y) i = (bt x i || bt y i) := by unfold bt; rw [Int32.toBitVec_or, BitVec.getLsbD_or]
theorem b_and (x y : Int32) (i : Nat) : bt (x &&& y) i = (bt x i && bt y i) := by unfold bt; rw [Int32.toBitVec_and, BitVec.getLsbD_and]
theorem b_xor (x y : Int32) (i : Nat) : bt (x ^^^ y) i = (bt x i ^^ bt y i) := by unfold bt; rw [Int32.toBitVec_xor, BitVec.getLsbD_xor]
theorem b_big {x : Int32} {i : Nat} (h : 32 ≤ i) : bt x i = false := BitVec.getLsbD_of_ge _ _ h
theorem b_255 (i : Nat) : bt 255 i = decide (i < 8) := by
  rcases Nat.lt_or_ge i 32 with h | h
  · exact (by decide +kernel : ∀ i, i < 32 → bt 255 i = decide (i < 8)) i h
  · rw [b_big h, decide_eq_false (by omega)]
theorem b_65535 (i : Nat) : bt 65535 i = decide (i < 16) := by
  rcases Nat.lt_or_ge i 32 with h | h
  · exact (by decide +kernel : ∀ i, i < 32 → bt 65535 i = decide (i < 16)) i h
  · rw [b_big h, decide_eq_false (by omega)]
theorem b_m1 : ∀ i, i < 32 → bt (-1) i = true := by decide +kernel
theorem b_0 (i : Nat) : bt 0 i = false := BitVec.getLsbD_zero
theorem s_l : ∀ n, n < 32 → ((nI n &&& 31).toBitVec.smod 32).toNat = n := by decide +kernel
theorem s_u : ∀ n, n < 32 → (((nI n).toUInt32 &&& Int32.toUInt32 31).toBitVec % 32).toNat = n := by decide +kernel
theorem b_shl (n : Nat) (hn : n < 32) (x : Int32) {i : Nat} (hi : i < 32) : bt (x <<< (nI n &&& 31)) i = (decide (n ≤ i) && bt x (i - n)) := by
  unfold bt
  rw [Int32.toBitVec_shiftLeft]
  show (x.toBitVec <<< ((nI n &&& 31).toBitVec.smod 32).toNat).getLsbD i = _
  rw [s_l n hn, BitVec.getLsbD_shiftLeft]
  rcases Nat.lt_or_ge i n with h | h
  · simp [h, Nat.not_le.mpr h]
  · simp [hi, h, Nat.not_lt.mpr h]
theorem b_ushr (n : Nat) (hn : n < 32) (x : Int32) (i : Nat) : bt ((x.toUInt32 >>> ((nI n).toUInt32 &&& Int32.toUInt32 31)).toInt32) i = bt x (n + i) := by
  show (x.toUInt32 >>> ((nI n).toUInt32 &&& Int32.toUInt32 31)).toBitVec.getLsbD i = x.toUInt32.toBitVec.getLsbD (n + i)
  rw [UInt32.toBitVec_shiftRight]
  show (x.toUInt32.toBitVec >>> (((nI n).toUInt32 &&& Int32.toUInt32 31).toBitVec % 32).toNat).getLsbD i = _
  rw [s_u n hn, BitVec.getLsbD_ushiftRight]
theorem b_sshr (n : Nat) (hn : n < 32) (x : Int32) {i : Nat} (hi : i < 32) : bt (x >>> (nI n &&& 31)) i = if n + i < 32 then bt x (n + i) else bt x 31 := by
  unfold bt
  rw [Int32.toBitVec_shiftRight]
  show (x.toBitVec.sshiftRight ((nI n &&& 31).toBitVec.smod 32).toNat).getLsbD i = _
  rw [s_l n hn, BitVec.getLsbD_sshiftRight, BitVec.msb_eq_getLsbD_last]
  simp [hi]
theorem b_shl8 (x : Int32) {i : Nat} (hi : i < 32) : bt (x <<< ((8 : Int32) &&& 31)) i = (decide (8 ≤ i) && bt x (i - 8)) := b_shl 8 (by omega) x hi
theorem b_shl16 (x : Int32) {i : Nat} (hi : i < 32) : bt (x <<< ((16 : Int32) &&& 31)) i = (decide (16 ≤ i) && bt x (i - 16)) := b_shl 16 (by omega) x hi
theorem b_shl24 (x : Int32) {i : Nat} (hi : i < 32) : bt (x <<< ((24 : Int32) &&& 31)) i = (decide (24 ≤ i) && bt x (i - 24)) := b_shl 24 (by omega) x hi
theorem b_sshr8 (x : Int32) {i : Nat} (hi : i < 32) : bt (x >>> ((8 : Int32) &&& 31)) i = if 8 + i < 32 then bt x (8 + i) else bt x 31 := b_sshr 8 (by omega) x hi
/-! ===== nI under and, xor, >>>, one bit, 65535 ===== -/
theorem nx_and (a b : Nat) : nI a &&& nI b = nI (a &&& b) := by
  apply Int32.toBitVec_inj.1
  show BitVec.ofNat 32 a &&& BitVec.ofNat 32 b = BitVec.ofNat 32 (a &&& b)
  apply BitVec.eq_of_getLsbD_eq
  intro i hi
  simp [hi]
theorem nx_xor (a b : Nat) : nI a ^^^ nI b = nI (a ^^^ b) := by
  apply Int32.toBitVec_inj.1
  show BitVec.ofNat 32 a ^^^ BitVec.ofNat 32 b = BitVec.ofNat 32 (a ^^^ b)
  apply BitVec.eq_of_getLsbD_eq
  intro i hi
  simp [hi]
/-! plain facts on numbers and arrays, to paste: each family by itself; over the kit's rows on nI and upd -/
/-! ===== order of ints, in all its forms, and through longs ===== -/
theorem fa_lt (a b : Int32) : a < b ↔ a.toInt < b.toInt := Int32.lt_iff_toInt_lt
theorem fa_le (a b : Int32) : a ≤ b ↔ a.toInt ≤ b.toInt := Int32.le_iff_toInt_le
theorem fa_eq (a b : Int32) : a = b ↔ a.toInt = b.toInt := Int32.toInt_inj.symm
theorem fa_lt64 (a b : Int64) : a < b ↔ a.toInt < b.toInt := Int64.lt_iff_toInt_lt
theorem fa_le64 (a b : Int64) : a ≤ b ↔ a.toInt ≤ b.toInt := Int64.le_iff_toInt_le
theorem fa_eq64 (a b : Int64) : a = b ↔ a.toInt = b.toInt := Int64.toInt_inj.symm
/-- a comparison of two ints taken as longs -/
theorem fa_wide_lt (a b : Int32) : a.toInt64 < b.toInt64 ↔ a < b := by rw [fa_lt64, fa_lt, Int32.toInt_toInt64, Int32.toInt_toInt64]
theorem fa_wide_le (a b : Int32) : a.toInt64 ≤ b.toInt64 ↔ a ≤ b := by rw [fa_le64, fa_le, Int32.toInt_toInt64, Int32.toInt_toInt64]
theorem fa_wide_eq (a b : Int32) : a.toInt64 = b.toInt64 ↔ a = b := by rw [fa_eq64, fa_eq, Int32.toInt_toInt64, Int32.toInt_toInt64]
/-- one strict comparison gives all the others -/
theorem fa_of_lt {a b : Int32} (h : a < b) : a ≤ b ∧ ¬ b ≤ a ∧ ¬ b < a ∧ a ≠ b ∧ b ≠ a := by
  rw [fa_lt] at h
  refine ⟨?_, ?_, ?_, ?_, ?_⟩
  · rw [fa_le]; omega
  · rw [fa_le]; omega
  · rw [fa_lt]; omega
  · intro e; rw [fa_eq] at e; omega
  · intro e; rw [fa_eq] at e; omega
theorem fa_of_nlt {a b : Int32} (h : ¬ a < b) : b ≤ a := by
  rw [fa_lt] at h
  rw [fa_le]
  omega
theorem fa_of_nle {a b : Int32} (h : ¬ a ≤ b) : b < a := by
  rw [fa_le] at h
  rw [fa_lt]
  omega
theorem fa_le_ne {a b : Int32} (h : a ≤ b) (h2 : a ≠ b) : a < b := by
  rw [fa_le] at h
  rw [fa_lt]
  have h3 : a.toInt ≠ b.toInt := fun e => h2 ((fa_eq a b).mpr e)
  omega
theorem fa_three (a b : Int32) : a < b ∨ a = b ∨ b < a := by
  rw [fa_lt, fa_lt, fa_eq]
  omega
theorem fa_trans {a b c : Int32} (h : a < b) (h2 : b ≤ c) : a < c := by
  rw [fa_lt] at *
  rw [fa_le] at h2
  omega
/-! ===== small literals as numbers ===== -/
theorem fa_lit (n : Nat) : (OfNat.ofNat n : Int32) = nI n := rfl
theorem fa_litL (n : Nat) : (OfNat.ofNat n : Int64) = lN n := rfl
/-! ===== bits of a number: 'or', masks, one bit ===== -/
theorem fa_and (a b : Nat) : nI a &&& nI b = nI (a &&& b) := by
  apply Int32.toBitVec_inj.1
  show BitVec.ofNat 32 a &&& BitVec.ofNat 32 b = BitVec.ofNat 32 (a &&& b)
  apply BitVec.eq_of_getLsbD_eq
  intro i hi
  simp [hi]
theorem fa_or (a b : Nat) : nI a ||| nI b = nI (a ||| b) := by
  apply Int32.toBitVec_inj.1
  show BitVec.ofNat 32 a ||| BitVec.ofNat 32 b = BitVec.ofNat 32 (a ||| b)
  apply BitVec.eq_of_getLsbD_eq
  intro i hi
  simp [hi]
/-- a remainder by a power of two, as a mask -/
theorem fa_mask (n k : Nat) : nI n &&& nI (2 ^ k - 1) = nI (n % 2 ^ k) := by rw [fa_and, Nat.and_two_pow_sub_one_eq_mod]
/-- 'or' of a high part and a low one that don't meet is their sum -/
theorem fa_or_sum {a k : Nat} (b : Nat) (h : a < 2 ^ k) : nI (2 ^ k * b) ||| nI a = nI (2 ^ k * b + a) := by rw [fa_or, Nat.two_pow_add_eq_or_of_lt h]
/-- one bit, by 'and' with a power of two -/
theorem fa_bit {n j : Nat} (hj : j < 31) : nI n &&& nI (2 ^ j) = 0 ↔ n.testBit j = false := by
  have h2 : (2 : Nat) ^ j < 2 ^ 31 := Nat.pow_lt_pow_right (by decide) hj
  have hle : n &&& 2 ^ j ≤ 2 ^ j := Nat.and_le_right
  have e : n &&& 2 ^ j = 0 ↔ n.testBit j = false := by
    constructor
    · intro h
      have h1 : (n &&& 2 ^ j).testBit j = false := by rw [h]; simp
      rw [Nat.testBit_and] at h1
      first | simpa using h1 | simpa [Nat.testBit_two_pow_self] using h1 | simpa [Nat.testBit_two_pow] using h1
    · intro h
      apply Nat.eq_of_testBit_eq
      intro i
      rw [Nat.testBit_and]
      by_cases hi : j = i
      · subst hi; simp [h]
      · first | (simp [Nat.testBit_two_pow, hi]; done) | (simp [Nat.testBit_two_pow_of_ne hi]; done)
  rw [fa_and]
  constructor
  · intro h
    apply e.mp
    rcases Nat.eq_zero_or_pos (n &&& 2 ^ j) with z | z
    · exact z
    · exact absurd h (nI_ne0 z (Nat.lt_of_le_of_lt hle h2))
  · intro h
    rw [e.mpr h]; exact nI_0
/-- a remainder by a power of two of a number that isn't negative, as Java divides -/
theorem fa_rem {a k : Nat} (ha : a < 2 ^ 31) (hk : k < 31) : nI a - nI a / nI (2 ^ k) * nI (2 ^ k) = nI (a % 2 ^ k) := pk_rem ha (Nat.two_pow_pos k) (Nat.pow_lt_pow_right (by decide) hk)
/-! ===== cuts to a byte, a short ===== -/
theorem fa_byte_xor (x y : Int32) : (x ^^^ y).toInt8 = x.toInt8 ^^^ y.toInt8 := by
  apply Int8.toBitVec_inj.1
  apply BitVec.eq_of_getLsbD_eq
  intro i hi
  first | (simp [hi]; done) | (simp [hi, BitVec.getLsbD_setWidth, BitVec.getLsbD_signExtend]; done)
theorem fa_short_xor (x y : Int32) : (x ^^^ y).toInt16 = x.toInt16 ^^^ y.toInt16 := by
  apply Int16.toBitVec_inj.1
  apply BitVec.eq_of_getLsbD_eq
  intro i hi
  first | (simp [hi]; done) | (simp [hi, BitVec.getLsbD_setWidth, BitVec.getLsbD_signExtend]; done)
/-- the cut to a byte sees the low byte alone -/
theorem fa_byte_low (x : Int32) : (x &&& 255).toInt8 = x.toInt8 := by
  apply Int8.toBitVec_inj.1
  apply BitVec.eq_of_getLsbD_eq
  intro i hi
  have h2 : (255 : Int32).toBitVec.getLsbD i = true := by
    have : ∀ j : Fin 8, (255 : Int32).toBitVec.getLsbD j.val = true := by decide +kernel
    exact this ⟨i, hi⟩
  have h4 : (x &&& 255).toBitVec.getLsbD i = x.toBitVec.getLsbD i := by
    show (x.toBitVec &&& (255 : Int32).toBitVec).getLsbD i = _
    rw [BitVec.getLsbD_and, h2, Bool.and_true]
  have h3 : i < 32 := by omega
  first
    | (show (((x &&& 255).toBitVec).signExtend 8).getLsbD i = (x.toBitVec.signExtend 8).getLsbD i; rw [BitVec.getLsbD_signExtend, BitVec.getLsbD_signExtend, if_pos h3, if_pos h3, h4])
    | (show (((x &&& 255).toBitVec).setWidth 8).getLsbD i = (x.toBitVec.setWidth 8).getLsbD i; rw [BitVec.getLsbD_setWidth, BitVec.getLsbD_setWidth, h4])
    | (simp [hi, h3, h4]; done)
theorem fa_short_low (x : Int32) : (x &&& 65535).toInt16 = x.toInt16 := by
  apply Int16.toBitVec_inj.1
  apply BitVec.eq_of_getLsbD_eq
  intro i hi
  have h2 : (65535 : Int32).toBitVec.getLsbD i = true := by
    have : ∀ j : Fin 16, (65535 : Int32).toBitVec.getLsbD j.val = true := by decide +kernel
    exact this ⟨i, hi⟩
  have h4 : (x &&& 65535).toBitVec.getLsbD i = x.toBitVec.getLsbD i := by
    show (x.toBitVec &&& (65535 : Int32).toBitVec).getLsbD i = _
    rw [BitVec.getLsbD_and, h2, Bool.and_true]
  have h3 : i < 32 := by omega
  first
    | (show (((x &&& 65535).toBitVec).signExtend 16).getLsbD i = (x.toBitVec.signExtend 16).getLsbD i; rw [BitVec.getLsbD_signExtend, BitVec.getLsbD_signExtend, if_pos h3, if_pos h3, h4])
    | (show (((x &&& 65535).toBitVec).setWidth 16).getLsbD i = (x.toBitVec.setWidth 16).getLsbD i; rw [BitVec.getLsbD_setWidth, BitVec.getLsbD_setWidth, h4])
    | (simp [hi, h3, h4]; done)
/-- a small number is its own byte, its own short -/
theorem fa_byte_small {n : Nat} (h : n < 128) : (nI n).toInt8.toInt32 = nI n := by
  have : ∀ j : Fin 128, (nI j.val).toInt8.toInt32 = nI j.val := by decide +kernel
  exact this ⟨n, h⟩
/-! ===== absolute difference ===== -/
theorem fa_absdiff {a b : Nat} (ha : a < 2 ^ 31) (hb : b < 2 ^ 31) : (if nI a < nI b then nI b - nI a else nI a - nI b) = nI (if a < b then b - a else a - b) := by
  by_cases h : a < b
  · rw [if_pos (nI_lt h hb), if_pos h]
    exact pk_sub (Nat.le_of_lt h)
  · rw [if_neg (nI_nlt (Nat.le_of_not_lt h) ha), if_neg h]
    exact pk_sub (Nat.le_of_not_lt h)
/-! ===== an array behind i stores, a conditional store, a row copied ===== -/
/-- f where k < i, what stood there else -/
def fa_fill {α : Type} (f g : Nat → α) (i : Nat) : Nat → α := fun k => if k < i then f k else g k
theorem fa_fill_0 {α : Type} (f g : Nat → α) : fa_fill f g 0 = g := funext fun k => if_neg (Nat.not_lt_zero k)
theorem fa_fill_in {α : Type} {f g : Nat → α} {i k : Nat} (h : k < i) : fa_fill f g i k = f k := if_pos h
theorem fa_fill_out {α : Type} {f g : Nat → α} {i k : Nat} (h : i ≤ k) : fa_fill f g i k = g k := if_neg (Nat.not_lt.mpr h)
theorem fa_fill_succ (f g : Nat → Int32) (i : Nat) : upd (fa_fill f g i) i (f i) = fa_fill f g (i + 1) := by
  funext k
  by_cases e : k = i
  · subst e
    rw [pk_us]
    exact (if_pos (Nat.lt_succ_self k)).symm
  · rw [pk_un e]
    by_cases h : k < i
    · rw [fa_fill_in h, fa_fill_in (Nat.lt_succ_of_lt h)]
    · rw [fa_fill_out (Nat.le_of_not_lt h), fa_fill_out (by omega)]
/-- a store that changes nothing -/
theorem fa_upd_same {f : Nat → Int32} {i : Nat} {x : Int32} (h : f i = x) : upd f i x = f := by
  funext k
  by_cases e : k = i
  · subst e
    rw [pk_us, h]
  · rw [pk_un e]
/-- a store under a condition, told as one -/
theorem fa_upd_if (c : Prop) [Decidable c] (f : Nat → Int32) (i : Nat) (x : Int32) : (if c then upd f i x else f) = upd f i (if c then x else f i) := by
  by_cases h : c
  · rw [if_pos h, if_pos h]
  · rw [if_neg h, if_neg h, fa_upd_same rfl]
/-- two stores at one place, at two -/
theorem fa_upd_twice (f : Nat → Int32) (i : Nat) (x y : Int32) : upd (upd f i x) i y = upd f i y := by
  funext k
  by_cases e : k = i
  · subst e
    rw [pk_us, pk_us]
  · rw [pk_un e, pk_un e, pk_un e]
theorem fa_upd_swap (f : Nat → Int32) {i j : Nat} (h : i ≠ j) (x y : Int32) : upd (upd f i x) j y = upd (upd f j y) i x := by
  funext k
  by_cases e : k = i
  · subst e
    rw [pk_un h, pk_us, pk_us]
  · by_cases e2 : k = j
    · subst e2
      rw [pk_us, pk_un e, pk_us]
    · rw [pk_un e2, pk_un e, pk_un e, pk_un e2]
/-! ===== the first index with a property; a count ===== -/
/-- the first k < n with p k, n if there is none -/
def fa_first (p : Nat → Bool) : Nat → Nat
  | 0 => 0
  | n + 1 => if fa_first p n < n then fa_first p n else if p n then n else n + 1
theorem fa_first_le (p : Nat → Bool) : ∀ n, fa_first p n ≤ n
  | 0 => Nat.le_refl 0
  | n + 1 => by
    have ih := fa_first_le p n
    unfold fa_first
    split
    · omega
    · split
      · omega
      · omega
theorem fa_first_no (p : Nat → Bool) : ∀ n k, k < fa_first p n → p k = false
  | 0, k, h => absurd h (Nat.not_lt_zero k)
  | n + 1, k, h => by
    have ih := fa_first_no p n
    have hl := fa_first_le p n
    unfold fa_first at h
    split at h
    · exact ih k h
    · rename_i h1
      split at h
      · exact ih k (by omega)
      · rename_i h2
        by_cases e : k = n
        · subst e
          exact Bool.eq_false_iff.mpr h2
        · exact ih k (by omega)
theorem fa_first_yes (p : Nat → Bool) : ∀ n, fa_first p n < n → p (fa_first p n) = true
  | 0, h => absurd h (Nat.not_lt_zero _)
  | n + 1, h => by
    have ih := fa_first_yes p n
    have hl := fa_first_le p n
    unfold fa_first at h ⊢
    split at h
    · rename_i h1
      rw [if_pos h1]
      exact ih h1
    · rename_i h1
      rw [if_neg h1]
      split at h
      · rename_i h2
        rw [if_pos h2]
        exact h2
      · omega
/-- how many k < n have p k -/
def fa_cnt (p : Nat → Bool) : Nat → Nat
  | 0 => 0
  | n + 1 => fa_cnt p n + if p n then 1 else 0
theorem fa_cnt_le (p : Nat → Bool) : ∀ n, fa_cnt p n ≤ n
  | 0 => Nat.le_refl 0
  | n + 1 => by
    have ih := fa_cnt_le p n
    unfold fa_cnt
    split
    · omega
    · omega
theorem fa_cnt_yes {p : Nat → Bool} {n : Nat} (h : p n = true) : fa_cnt p (n + 1) = fa_cnt p n + 1 := by rw [fa_cnt, if_pos h]
theorem fa_cnt_no {p : Nat → Bool} {n : Nat} (h : p n = false) : fa_cnt p (n + 1) = fa_cnt p n := by rw [fa_cnt, if_neg (by rw [h]; decide)]; rfl
theorem fa_cnt_cong {p q : Nat → Bool} : ∀ {n : Nat}, (∀ k, k < n → p k = q k) → fa_cnt p n = fa_cnt q n
  | 0, _ => rfl
  | n + 1, h => by rw [fa_cnt, fa_cnt, fa_cnt_cong (fun k hk => h k (Nat.lt_succ_of_lt hk)), h n (Nat.lt_succ_self n)]
/-! ===== an answer carried into a post; a branch on a boolean answer ===== -/
theorem fa_post {α : Type} {P : α → Prop} {x y : α} (h : x = y) (hp : P y) : P x := h ▸ hp
theorem fa_post2 {α β : Type} {P : α → β → Prop} {x y : α} {u v : β} (h : x = y) (h2 : u = v) (hp : P y v) : P x u := h ▸ h2 ▸ hp
theorem fa_bool {r : Int32} {b : Bool} (h : r = if b then 1 else 0) : (r = 0 ↔ b = false) ∧ (¬ r = 0 ↔ b = true) := by
  subst h
  cases b
  · exact ⟨⟨fun _ => rfl, fun _ => rfl⟩, ⟨fun h => absurd rfl h, fun h => absurd h (by decide)⟩⟩
  · exact ⟨⟨fun h => absurd h (by decide), fun h => absurd h (by decide)⟩, ⟨fun _ => rfl, fun _ => by decide⟩⟩
/-- a boolean's narrowing changes nothing -/
theorem fa_bool_and {r : Int32} (h : r = 0 ∨ r = 1) : r &&& 1 = r := by
  rcases h with rfl | rfl
  · decide
  · decide
theorem fa_bool_prop {c : Prop} [Decidable c] {r : Int32} (h : r = if c then 1 else 0) : (r = 0 ↔ ¬ c) ∧ (¬ r = 0 ↔ c) := by
  subst h
  by_cases hc : c
  · rw [if_pos hc]
    exact ⟨⟨fun h => absurd h (by decide), fun h => absurd hc h⟩, ⟨fun _ => hc, fun _ => by decide⟩⟩
  · rw [if_neg hc]
    exact ⟨⟨fun _ => hc, fun _ => rfl⟩, ⟨fun h => absurd rfl h, fun h => absurd h hc⟩⟩

/-! plain facts to paste, each family by itself; over the kit's nI, lN and upd -/
/-! ===== drawers: more things than places ===== -/
theorem fb_holes : ∀ (m n : Nat) (f : Nat → Nat), (∀ i, i < n → f i < m) → (∀ i j, i < j → j < n → f i ≠ f j) → n ≤ m := by
  intro m
  induction m with
  | zero =>
    intro n f h1 _
    rcases Nat.eq_zero_or_pos n with h | h
    · omega
    · exact absurd (h1 0 h) (Nat.not_lt_zero _)
  | succ m ih =>
    intro n f h1 h2
    by_cases hx : ∃ i, i < n ∧ f i = m
    · obtain ⟨a, ha, hfa⟩ := hx
      have hg := ih (n - 1) (fun i => if i < a then f i else f (i + 1)) (by
        intro i hi
        by_cases q : i < a
        · simp only [if_pos q]
          have b1 := h1 i (by omega)
          have b2 := h2 i a q ha
          omega
        · simp only [if_neg q]
          have b1 := h1 (i + 1) (by omega)
          have b2 := h2 a (i + 1) (by omega) (by omega)
          omega) (by
        intro i j hij hj
        by_cases q : i < a
        · by_cases r : j < a
          · simp only [if_pos q, if_pos r]
            exact h2 i j hij (by omega)
          · simp only [if_pos q, if_neg r]
            exact h2 i (j + 1) (by omega) (by omega)
        · have r : ¬ j < a := by omega
          simp only [if_neg q, if_neg r]
          exact h2 (i + 1) (j + 1) (by omega) (by omega))
      omega
    · have hg := ih n f (fun i hi => by
        have b1 := h1 i hi
        have b2 : f i ≠ m := fun e => hx ⟨i, hi, e⟩
        omega) h2
      omega
/-- two of them in one place -/
theorem fb_twice {m n : Nat} {f : Nat → Nat} (h : ∀ i, i < n → f i < m) (hm : m < n) : ∃ i j, i < j ∧ j < n ∧ f i = f j := by
  refine Classical.byContradiction fun hx => ?_
  have := fb_holes m n f h (fun i j hij hj e => hx ⟨i, j, hij, hj, e⟩)
  omega
/-- as many as places, none twice: each place is taken -/
theorem fb_onto {n : Nat} {f : Nat → Nat} (h : ∀ i, i < n → f i < n) (h2 : ∀ i j, i < j → j < n → f i ≠ f j) {y : Nat} (hy : y < n) : ∃ i, i < n ∧ f i = y := by
  refine Classical.byContradiction fun hx => ?_
  have hne : ∀ i, i < n → f i ≠ y := fun i hi e => hx ⟨i, hi, e⟩
  have := fb_holes (n - 1) n (fun i => if f i < y then f i else f i - 1) (by
    intro i hi
    have b1 := h i hi
    have b2 := hne i hi
    by_cases q : f i < y
    · simp only [if_pos q]; omega
    · simp only [if_neg q]; omega) (by
    intro i j hij hj
    have b1 := hne i (by omega)
    have b2 := hne j hj
    have b3 := h2 i j hij hj
    by_cases q : f i < y
    · by_cases r : f j < y
      · simp only [if_pos q, if_pos r]; exact b3
      · simp only [if_pos q, if_neg r]; omega
    · by_cases r : f j < y
      · simp only [if_neg q, if_pos r]; omega
      · simp only [if_neg q, if_neg r]; omega)
  omega
/-! ===== how many places have a property ===== -/
def fb_ct (p : Nat → Bool) : Nat → Nat
  | 0 => 0
  | n + 1 => fb_ct p n + (if p n then 1 else 0)
theorem fb_ct_succ (p : Nat → Bool) (n : Nat) : fb_ct p (n + 1) = fb_ct p n + (if p n then 1 else 0) := rfl
theorem fb_ct_le (p : Nat → Bool) : ∀ n, fb_ct p n ≤ n
  | 0 => Nat.le_refl _
  | n + 1 => by
    have h := fb_ct_le p n
    rw [fb_ct_succ]
    split <;> omega
theorem fb_ct_step (p : Nat → Bool) (m : Nat) : ∀ n, fb_ct p m ≤ fb_ct p (m + n)
  | 0 => Nat.le_refl _
  | n + 1 => by
    have h := fb_ct_step p m n
    show fb_ct p m ≤ fb_ct p (m + n + 1)
    rw [fb_ct_succ]
    omega
theorem fb_ct_mono (p : Nat → Bool) {m n : Nat} (h : m ≤ n) : fb_ct p m ≤ fb_ct p n := by
  have := fb_ct_step p m (n - m)
  rwa [Nat.add_sub_cancel' h] at this
theorem fb_ct_cong {p q : Nat → Bool} : ∀ {n : Nat}, (∀ k, k < n → p k = q k) → fb_ct p n = fb_ct q n
  | 0, _ => rfl
  | n + 1, h => by
    rw [fb_ct_succ, fb_ct_succ, fb_ct_cong (fun k hk => h k (by omega)), h n (by omega)]
/-- one place changed -/
theorem fb_ct_out (p : Nat → Bool) (b : Bool) {i n : Nat} (h : n ≤ i) : fb_ct (fun k => if k = i then b else p k) n = fb_ct p n :=
  fb_ct_cong fun k hk => if_neg (by omega)
theorem fb_ct_upd (p : Nat → Bool) (b : Bool) {i : Nat} : ∀ {n : Nat}, i < n → fb_ct (fun k => if k = i then b else p k) n + (if p i then 1 else 0) = fb_ct p n + (if b then 1 else 0)
  | 0, h => absurd h (Nat.not_lt_zero i)
  | n + 1, h => by
    rw [fb_ct_succ, fb_ct_succ]
    rcases Nat.lt_or_ge i n with q | q
    · have := fb_ct_upd p b q
      have e : (if n = i then b else p n) = p n := if_neg (by omega)
      rw [e]
      omega
    · have e : i = n := by omega
      subst e
      rw [fb_ct_out p b (Nat.le_refl _)]
      simp only [if_true]
      omega
theorem fb_ct_sub {p q : Nat → Bool} : ∀ {n : Nat}, (∀ k, k < n → p k = true → q k = true) → fb_ct p n ≤ fb_ct q n
  | 0, _ => Nat.le_refl _
  | n + 1, h => by
    have h1 := fb_ct_sub (n := n) (p := p) (q := q) (fun k hk => h k (by omega))
    have h2 := h n (by omega)
    rw [fb_ct_succ, fb_ct_succ]
    cases hp : p n <;> cases hq : q n <;> simp_all <;> omega
theorem fb_ct_or {p q : Nat → Bool} : ∀ {n : Nat}, (∀ k, k < n → ¬ (p k = true ∧ q k = true)) → fb_ct (fun k => p k || q k) n = fb_ct p n + fb_ct q n
  | 0, _ => rfl
  | n + 1, h => by
    have h1 := fb_ct_or (n := n) (p := p) (q := q) (fun k hk => h k (by omega))
    have h2 := h n (by omega)
    rw [fb_ct_succ, fb_ct_succ, fb_ct_succ, h1]
    cases hp : p n <;> cases hq : q n <;> simp_all <;> omega
theorem fb_ct_not (p : Nat → Bool) : ∀ n, fb_ct p n + fb_ct (fun k => !p k) n = n
  | 0 => rfl
  | n + 1 => by
    have h := fb_ct_not p n
    rw [fb_ct_succ, fb_ct_succ]
    cases p n <;> simp <;> omega
theorem fb_ct_split (p : Nat → Bool) (m : Nat) : ∀ n, fb_ct p (m + n) = fb_ct p m + fb_ct (fun k => p (m + k)) n
  | 0 => rfl
  | n + 1 => by
    have h := fb_ct_split p m n
    show fb_ct p (m + n + 1) = _
    rw [fb_ct_succ, fb_ct_succ, h, Nat.add_assoc]
theorem fb_ct_zero {p : Nat → Bool} : ∀ {n : Nat}, fb_ct p n = 0 ↔ ∀ k, k < n → p k = false
  | 0 => ⟨fun _ k hk => absurd hk (Nat.not_lt_zero k), fun _ => rfl⟩
  | n + 1 => by
    have h := fb_ct_zero (p := p) (n := n)
    rw [fb_ct_succ]
    constructor
    · intro e k hk
      have e1 : fb_ct p n = 0 := by omega
      rcases Nat.lt_or_ge k n with q | q
      · exact h.mp e1 k q
      · have ek : k = n := by omega
        subst ek
        cases hp : p k
        · rfl
        · simp [hp] at e
    · intro a
      rw [h.mpr (fun k hk => a k (by omega)), a n (by omega)]
      rfl
theorem fb_ct_pos {p : Nat → Bool} {n : Nat} : 0 < fb_ct p n ↔ ∃ k, k < n ∧ p k = true := by
  constructor
  · intro h
    refine Classical.byContradiction fun hx => ?_
    have := fb_ct_zero.mpr (fun k hk => by
      cases hp : p k
      · rfl
      · exact absurd ⟨k, hk, hp⟩ hx : ∀ k, k < n → p k = false)
    omega
  · rintro ⟨k, hk, hp⟩
    rcases Nat.eq_zero_or_pos (fb_ct p n) with e | e
    · have := fb_ct_zero.mp e k hk
      rw [this] at hp
      cases hp
    · exact e
theorem fb_ct_all {p : Nat → Bool} {n : Nat} : fb_ct p n = n ↔ ∀ k, k < n → p k = true := by
  have h := fb_ct_not p n
  constructor
  · intro e k hk
    have z : fb_ct (fun k => !p k) n = 0 := by omega
    have := fb_ct_zero.mp z k hk
    cases hp : p k
    · simp [hp] at this
    · rfl
  · intro a
    have z : fb_ct (fun k => !p k) n = 0 := fb_ct_zero.mpr (fun k hk => by simp [a k hk])
    omega
/-- the k-th place with the property -/
theorem fb_ct_kth {p : Nat → Bool} {k : Nat} : ∀ {n : Nat}, k < fb_ct p n → ∃ i, i < n ∧ p i = true ∧ fb_ct p i = k
  | 0, h => absurd h (Nat.not_lt_zero k)
  | n + 1, h => by
    rcases Nat.lt_or_ge k (fb_ct p n) with q | q
    · obtain ⟨i, h1, h2⟩ := fb_ct_kth q
      exact ⟨i, by omega, h2⟩
    · rw [fb_ct_succ] at h
      cases hp : p n
      · simp [hp] at h; omega
      · simp [hp] at h
        exact ⟨n, by omega, hp, by omega⟩
theorem fb_ct_kth_one {p : Nat → Bool} {i j : Nat} (hi : p i = true) (hj : p j = true) (e : fb_ct p i = fb_ct p j) : i = j := by
  have key : ∀ a b : Nat, a < b → p a = true → fb_ct p a < fb_ct p b := by
    intro a b hab ha
    have h := fb_ct_mono p (show a + 1 ≤ b from hab)
    rw [fb_ct_succ, ha] at h
    simp at h
    omega
  rcases Nat.lt_trichotomy i j with q | q | q
  · have := key i j q hi; omega
  · exact q
  · have := key j i q hj; omega
/-! ===== sums over a range: one place changed, parts, bounds ===== -/
def fb_sm (f : Nat → Nat) : Nat → Nat
  | 0 => 0
  | n + 1 => fb_sm f n + f n
theorem fb_sm_succ (f : Nat → Nat) (n : Nat) : fb_sm f (n + 1) = fb_sm f n + f n := rfl
theorem fb_sm_cong {f g : Nat → Nat} : ∀ {n : Nat}, (∀ k, k < n → f k = g k) → fb_sm f n = fb_sm g n
  | 0, _ => rfl
  | n + 1, h => by rw [fb_sm_succ, fb_sm_succ, fb_sm_cong (fun k hk => h k (by omega)), h n (by omega)]
theorem fb_sm_out (f : Nat → Nat) (v : Nat) {i n : Nat} (h : n ≤ i) : fb_sm (fun k => if k = i then v else f k) n = fb_sm f n :=
  fb_sm_cong fun k hk => if_neg (by omega)
theorem fb_sm_upd (f : Nat → Nat) (v : Nat) {i : Nat} : ∀ {n : Nat}, i < n → fb_sm (fun k => if k = i then v else f k) n + f i = fb_sm f n + v
  | 0, h => absurd h (Nat.not_lt_zero i)
  | n + 1, h => by
    rw [fb_sm_succ, fb_sm_succ]
    rcases Nat.lt_or_ge i n with q | q
    · have := fb_sm_upd f v q
      have e : (if n = i then v else f n) = f n := if_neg (by omega)
      rw [e]
      omega
    · have e : i = n := by omega
      subst e
      rw [fb_sm_out f v (Nat.le_refl _)]
      simp only [if_true]
      omega
theorem fb_sm_add (f g : Nat → Nat) : ∀ n, fb_sm (fun k => f k + g k) n = fb_sm f n + fb_sm g n
  | 0 => rfl
  | n + 1 => by
    have h := fb_sm_add f g n
    rw [fb_sm_succ, fb_sm_succ, fb_sm_succ, h]
    omega
theorem fb_sm_le {f g : Nat → Nat} : ∀ {n : Nat}, (∀ k, k < n → f k ≤ g k) → fb_sm f n ≤ fb_sm g n
  | 0, _ => Nat.le_refl _
  | n + 1, h => by
    have h1 := fb_sm_le (n := n) (f := f) (g := g) (fun k hk => h k (by omega))
    have h2 := h n (by omega)
    rw [fb_sm_succ, fb_sm_succ]
    omega
theorem fb_sm_const (c : Nat) : ∀ n, fb_sm (fun _ => c) n = n * c
  | 0 => by rw [Nat.zero_mul]; rfl
  | n + 1 => by rw [fb_sm_succ, fb_sm_const c n, Nat.succ_mul]
theorem fb_sm_bound {f : Nat → Nat} {c n : Nat} (h : ∀ k, k < n → f k ≤ c) : fb_sm f n ≤ n * c := by
  rw [← fb_sm_const c n]
  exact fb_sm_le h
theorem fb_sm_mono (f : Nat → Nat) (m : Nat) : ∀ n, fb_sm f m ≤ fb_sm f (m + n)
  | 0 => Nat.le_refl _
  | n + 1 => by
    have h := fb_sm_mono f m n
    show fb_sm f m ≤ fb_sm f (m + n + 1)
    rw [fb_sm_succ]
    omega
theorem fb_sm_part (f : Nat → Nat) {i n : Nat} (h : i < n) : fb_sm f i + f i ≤ fb_sm f n := by
  have := fb_sm_mono f (i + 1) (n - (i + 1))
  rw [fb_sm_succ, show i + 1 + (n - (i + 1)) = n by omega] at this
  exact this
theorem fb_sm_split (f : Nat → Nat) (m : Nat) : ∀ n, fb_sm f (m + n) = fb_sm f m + fb_sm (fun k => f (m + k)) n
  | 0 => rfl
  | n + 1 => by
    have h := fb_sm_split f m n
    show fb_sm f (m + n + 1) = _
    rw [fb_sm_succ, fb_sm_succ, h, Nat.add_assoc]
theorem fb_sm_zero {f : Nat → Nat} {n : Nat} (h : fb_sm f n = 0) : ∀ k, k < n → f k = 0 := fun k hk => by
  have := fb_sm_part f hk
  omega
/-- the same over whole numbers -/
def fb_si (f : Nat → Int) : Nat → Int
  | 0 => 0
  | n + 1 => fb_si f n + f n
theorem fb_si_succ (f : Nat → Int) (n : Nat) : fb_si f (n + 1) = fb_si f n + f n := rfl
theorem fb_si_cong {f g : Nat → Int} : ∀ {n : Nat}, (∀ k, k < n → f k = g k) → fb_si f n = fb_si g n
  | 0, _ => rfl
  | n + 1, h => by rw [fb_si_succ, fb_si_succ, fb_si_cong (fun k hk => h k (by omega)), h n (by omega)]
theorem fb_si_out (f : Nat → Int) (v : Int) {i n : Nat} (h : n ≤ i) : fb_si (fun k => if k = i then v else f k) n = fb_si f n :=
  fb_si_cong fun k hk => if_neg (by omega)
theorem fb_si_upd (f : Nat → Int) (v : Int) {i : Nat} : ∀ {n : Nat}, i < n → fb_si (fun k => if k = i then v else f k) n = fb_si f n - f i + v
  | 0, h => absurd h (Nat.not_lt_zero i)
  | n + 1, h => by
    rw [fb_si_succ, fb_si_succ]
    rcases Nat.lt_or_ge i n with q | q
    · have := fb_si_upd f v q
      have e : (if n = i then v else f n) = f n := if_neg (by omega)
      rw [e]
      omega
    · have e : i = n := by omega
      subst e
      rw [fb_si_out f v (Nat.le_refl _)]
      simp only [if_true]
      omega
theorem fb_si_add (f g : Nat → Int) : ∀ n, fb_si (fun k => f k + g k) n = fb_si f n + fb_si g n
  | 0 => rfl
  | n + 1 => by
    have h := fb_si_add f g n
    rw [fb_si_succ, fb_si_succ, fb_si_succ, h]
    omega
theorem fb_si_sub (f g : Nat → Int) : ∀ n, fb_si (fun k => f k - g k) n = fb_si f n - fb_si g n
  | 0 => rfl
  | n + 1 => by
    have h := fb_si_sub f g n
    rw [fb_si_succ, fb_si_succ, fb_si_succ, h]
    omega
theorem fb_si_mul (c : Int) (f : Nat → Int) : ∀ n, fb_si (fun k => c * f k) n = c * fb_si f n
  | 0 => (Int.mul_zero c).symm
  | n + 1 => by
    have h := fb_si_mul c f n
    rw [fb_si_succ, fb_si_succ, h, Int.mul_add]
theorem fb_si_split (f : Nat → Int) (m : Nat) : ∀ n, fb_si f (m + n) = fb_si f m + fb_si (fun k => f (m + k)) n
  | 0 => (Int.add_zero _).symm
  | n + 1 => by
    have h := fb_si_split f m n
    show fb_si f (m + n + 1) = _
    rw [fb_si_succ, fb_si_succ, h, Int.add_assoc]
theorem fb_si_nat (f : Nat → Nat) : ∀ n, fb_si (fun k => (f k : Int)) n = (fb_sm f n : Int)
  | 0 => rfl
  | n + 1 => by
    have h := fb_si_nat f n
    rw [fb_si_succ, fb_sm_succ, h]
    omega
theorem fb_si_bound {f : Nat → Int} {c : Int} (hc : 0 ≤ c) : ∀ {n : Nat}, (∀ k, k < n → -c ≤ f k ∧ f k ≤ c) → -(n * c) ≤ fb_si f n ∧ fb_si f n ≤ n * c
  | 0, _ => by simp [fb_si]
  | n + 1, h => by
    have h1 := fb_si_bound (n := n) (f := f) hc (fun k hk => h k (by omega))
    have h2 := h n (by omega)
    have e : ((n + 1 : Nat) : Int) * c = n * c + c := by rw [Int.natCast_add, Int.add_mul]; simp
    rw [fb_si_succ, e]
    omega
/-! ===== bits of a long that isn't negative ===== -/
theorem fb_andL (a b : Nat) : lN a &&& lN b = lN (a &&& b) := by
  apply Int64.toBitVec_inj.1
  show BitVec.ofNat 64 a &&& BitVec.ofNat 64 b = BitVec.ofNat 64 (a &&& b)
  apply BitVec.eq_of_getLsbD_eq
  intro i hi
  simp [hi]
theorem fb_orL (a b : Nat) : lN a ||| lN b = lN (a ||| b) := by
  apply Int64.toBitVec_inj.1
  show BitVec.ofNat 64 a ||| BitVec.ofNat 64 b = BitVec.ofNat 64 (a ||| b)
  apply BitVec.eq_of_getLsbD_eq
  intro i hi
  simp [hi]
theorem fb_xorL (a b : Nat) : lN a ^^^ lN b = lN (a ^^^ b) := by
  apply Int64.toBitVec_inj.1
  show BitVec.ofNat 64 a ^^^ BitVec.ofNat 64 b = BitVec.ofNat 64 (a ^^^ b)
  apply BitVec.eq_of_getLsbD_eq
  intro i hi
  simp [hi]
theorem fb_xorI (a b : Nat) : nI a ^^^ nI b = nI (a ^^^ b) := by
  apply Int32.toBitVec_inj.1
  show BitVec.ofNat 32 a ^^^ BitVec.ofNat 32 b = BitVec.ofNat 32 (a ^^^ b)
  apply BitVec.eq_of_getLsbD_eq
  intro i hi
  simp [hi]
theorem fb_maskL (n k : Nat) : lN n &&& lN (2 ^ k - 1) = lN (n % 2 ^ k) := by rw [fb_andL, Nat.and_two_pow_sub_one_eq_mod]
theorem fb_or_sumL {a k : Nat} (b : Nat) (h : a < 2 ^ k) : lN (2 ^ k * b) ||| lN a = lN (2 ^ k * b + a) := by rw [fb_orL, Nat.two_pow_add_eq_or_of_lt h]
theorem fb_lN_inj {a b : Nat} (ha : a < 2 ^ 63) (hb : b < 2 ^ 63) : lN a = lN b ↔ a = b := by
  constructor
  · intro h
    have h1 : (BitVec.ofNat 64 a).toNat = (BitVec.ofNat 64 b).toNat := congrArg (fun x : Int64 => x.toBitVec.toNat) h
    rw [BitVec.toNat_ofNat, BitVec.toNat_ofNat, Nat.mod_eq_of_lt (by omega), Nat.mod_eq_of_lt (by omega)] at h1
    exact h1
  · rintro rfl; rfl
theorem fb_bit_nat (n j : Nat) : n &&& 2 ^ j = 0 ↔ n.testBit j = false := by
  constructor
  · intro h
    have h1 : (n &&& 2 ^ j).testBit j = false := by rw [h]; simp
    rw [Nat.testBit_and] at h1
    simpa using h1
  · intro h
    apply Nat.eq_of_testBit_eq
    intro i
    rw [Nat.testBit_and]
    by_cases hi : j = i
    · subst hi; simp [h]
    · first | (simp [Nat.testBit_two_pow, hi]; done) | (simp [Nat.testBit_two_pow_of_ne hi]; done)
/-- one bit of a long -/
theorem fb_bitL {n j : Nat} (hj : j < 63) : lN n &&& lN (2 ^ j) = 0 ↔ n.testBit j = false := by
  have h2 : (2 : Nat) ^ j < 2 ^ 63 := Nat.pow_lt_pow_right (by decide) hj
  have hle : n &&& 2 ^ j ≤ 2 ^ j := Nat.and_le_right
  rw [fb_andL, ← fb_bit_nat, show (0 : Int64) = lN 0 from rfl]
  exact fb_lN_inj (by omega) (by decide)
/-- a bit set, a bit taken off -/
theorem fb_bit_set (n j i : Nat) : (n ||| 2 ^ j).testBit i = (n.testBit i || decide (i = j)) := by
  rw [Nat.testBit_or]
  by_cases h : j = i
  · subst h; simp
  · have h2 : ¬ i = j := fun e => h e.symm
    first | (simp [Nat.testBit_two_pow, h, h2]; done) | (simp [Nat.testBit_two_pow_of_ne h, h2]; done)
theorem fb_bit_flip (n j i : Nat) : (n ^^^ 2 ^ j).testBit i = (n.testBit i ^^ decide (i = j)) := by
  rw [Nat.testBit_xor]
  by_cases h : j = i
  · subst h; simp
  · have h2 : ¬ i = j := fun e => h e.symm
    first | (simp [Nat.testBit_two_pow, h, h2]; done) | (simp [Nat.testBit_two_pow_of_ne h, h2]; done)
/-! ===== a stretch of an array written over by a function ===== -/
def fb_put {α : Type} (f g : Nat → α) (a n : Nat) : Nat → α := fun k => if a ≤ k ∧ k < a + n then g (k - a) else f k
theorem fb_put_0 {α : Type} (f g : Nat → α) (a : Nat) : fb_put f g a 0 = f := funext fun k => if_neg (by omega)
theorem fb_put_in {α : Type} {f g : Nat → α} {a n k : Nat} (h1 : a ≤ k) (h2 : k < a + n) : fb_put f g a n k = g (k - a) := if_pos ⟨h1, h2⟩
theorem fb_put_out {α : Type} {f g : Nat → α} {a n k : Nat} (h : k < a ∨ a + n ≤ k) : fb_put f g a n k = f k := if_neg (by omega)
theorem fb_put_succ (f g : Nat → Int32) (a n : Nat) : upd (fb_put f g a n) (a + n) (g n) = fb_put f g a (n + 1) := by
  funext k
  by_cases h : k = a + n
  · subst h
    simp [upd, fb_put]
  · by_cases h1 : a ≤ k ∧ k < a + n
    · have h2 : a ≤ k ∧ k < a + (n + 1) := by omega
      simp only [upd, fb_put, if_neg h, if_pos h1, if_pos h2]
    · have h2 : ¬ (a ≤ k ∧ k < a + (n + 1)) := by omega
      simp only [upd, fb_put, if_neg h, if_neg h1, if_neg h2]
/-- .. from the far end down -/
theorem fb_put_down (f g : Nat → Int32) {a n m : Nat} (h : m < n) : upd (fb_put f (fun k => g (k + (m + 1))) (a + (m + 1)) (n - (m + 1))) (a + m) (g m) = fb_put f (fun k => g (k + m)) (a + m) (n - m) := by
  funext k
  by_cases h0 : k = a + m
  · subst h0
    simp only [upd, if_true]
    rw [fb_put_in (by omega) (by omega)]
    exact congrArg g (by omega)
  · simp only [upd, if_neg h0]
    by_cases h1 : a + (m + 1) ≤ k ∧ k < a + (m + 1) + (n - (m + 1))
    · rw [fb_put_in h1.1 h1.2, fb_put_in (by omega) (by omega)]
      exact congrArg g (by omega)
    · rw [fb_put_out (by omega), fb_put_out (by omega)]
theorem fb_put_cong {α : Type} {f f2 g g2 : Nat → α} {a n : Nat} (hf : ∀ k, (k < a ∨ a + n ≤ k) → f k = f2 k) (hg : ∀ k, k < n → g k = g2 k) : fb_put f g a n = fb_put f2 g2 a n := by
  funext k
  by_cases h : a ≤ k ∧ k < a + n
  · rw [fb_put_in h.1 h.2, fb_put_in h.1 h.2, hg _ (by omega)]
  · rw [fb_put_out (by omega), fb_put_out (by omega), hf _ (by omega)]
/-! ===== the least, the first, the best so far; that there is one alone ===== -/
theorem fb_first {p : Nat → Prop} [DecidablePred p] : ∀ {n : Nat}, (∃ i, i < n ∧ p i) → ∃ i, i < n ∧ p i ∧ ∀ j, j < i → ¬ p j
  | 0, h => by obtain ⟨i, hi, -⟩ := h; exact absurd hi (Nat.not_lt_zero i)
  | n + 1, h => by
    by_cases q : ∃ i, i < n ∧ p i
    · obtain ⟨i, h1, h2⟩ := fb_first q
      exact ⟨i, by omega, h2⟩
    · obtain ⟨i, h1, h2⟩ := h
      have e : i = n := by
        rcases Nat.lt_or_ge i n with r | r
        · exact absurd ⟨i, r, h2⟩ q
        · omega
      subst e
      exact ⟨i, by omega, h2, fun j hj hp => q ⟨j, hj, hp⟩⟩
theorem fb_first_one {p : Nat → Prop} {i j : Nat} (hi : p i) (hi2 : ∀ k, k < i → ¬ p k) (hj : p j) (hj2 : ∀ k, k < j → ¬ p k) : i = j := by
  rcases Nat.lt_trichotomy i j with q | q | q
  · exact absurd hi (hj2 i q)
  · exact q
  · exact absurd hj (hi2 j q)
theorem fb_last {p : Nat → Prop} [DecidablePred p] : ∀ {n : Nat}, (∃ i, i < n ∧ p i) → ∃ i, i < n ∧ p i ∧ ∀ j, i < j → j < n → ¬ p j
  | 0, h => by obtain ⟨i, hi, -⟩ := h; exact absurd hi (Nat.not_lt_zero i)
  | n + 1, h => by
    by_cases q : p n
    · exact ⟨n, by omega, q, fun j h1 h2 => by omega⟩
    · obtain ⟨i, h1, h2⟩ := h
      have hi : i < n := by
        rcases Nat.lt_or_ge i n with r | r
        · exact r
        · have e : i = n := by omega
          subst e
          exact absurd h2 q
      obtain ⟨i2, a1, a2, a3⟩ := fb_last (n := n) ⟨i, hi, h2⟩
      refine ⟨i2, by omega, a2, fun j b1 b2 => ?_⟩
      rcases Nat.lt_or_ge j n with r | r
      · exact a3 j b1 r
      · have e : j = n := by omega
        subst e
        exact q
/-- the first greatest -/
theorem fb_best (f : Nat → Int) : ∀ {n : Nat}, 0 < n → ∃ i, i < n ∧ (∀ j, j < n → f j ≤ f i) ∧ ∀ j, j < i → f j < f i
  | 0, h => absurd h (Nat.lt_irrefl 0)
  | 1, _ => ⟨0, by omega, fun j hj => by have e : j = 0 := by omega
                                         subst e; exact Int.le_refl _, fun j hj => absurd hj (Nat.not_lt_zero j)⟩
  | n + 2, _ => by
    obtain ⟨i, h1, h2, h3⟩ := fb_best f (n := n + 1) (by omega)
    by_cases q : f i < f (n + 1)
    · refine ⟨n + 1, by omega, fun j hj => ?_, fun j hj => ?_⟩
      · rcases Nat.lt_or_ge j (n + 1) with r | r
        · have := h2 j r; omega
        · have e : j = n + 1 := by omega
          subst e; exact Int.le_refl _
      · have := h2 j hj; omega
    · refine ⟨i, by omega, fun j hj => ?_, h3⟩
      rcases Nat.lt_or_ge j (n + 1) with r | r
      · exact h2 j r
      · have e : j = n + 1 := by omega
        subst e; omega
theorem fb_best_one {f : Nat → Int} {n i j : Nat} (hi : i < n) (hi2 : ∀ k, k < n → f k ≤ f i) (hi3 : ∀ k, k < i → f k < f i) (hj : j < n) (hj2 : ∀ k, k < n → f k ≤ f j) (hj3 : ∀ k, k < j → f k < f j) : i = j := by
  rcases Nat.lt_trichotomy i j with q | q | q
  · have a := hj3 i q
    have b := hi2 j hj
    omega
  · exact q
  · have a := hi3 j q
    have b := hj2 i hi
    omega
/-- the first least -/
theorem fb_low (f : Nat → Int) {n : Nat} (h : 0 < n) : ∃ i, i < n ∧ (∀ j, j < n → f i ≤ f j) ∧ ∀ j, j < i → f i < f j := by
  obtain ⟨i, h1, h2, h3⟩ := fb_best (fun k => -f k) h
  exact ⟨i, h1, fun j hj => by have := h2 j hj; omega, fun j hj => by have := h3 j hj; omega⟩
/-! ===== signed ints as whole numbers, within bounds ===== -/
theorem fb_rng (x : Int32) : -2147483648 ≤ x.toInt ∧ x.toInt < 2147483648 := by
  have h1 := Int32.le_toInt x
  have h2 := Int32.toInt_lt x
  omega
theorem fb_bmod {z : Int} (h1 : -2147483648 ≤ z) (h2 : z < 2147483648) : z.bmod (2 ^ 32) = z := by
  rw [Int.bmod_eq_of_le (by omega) (by omega)]
theorem fb_addI {x y : Int32} (h1 : -2147483648 ≤ x.toInt + y.toInt) (h2 : x.toInt + y.toInt < 2147483648) : (x + y).toInt = x.toInt + y.toInt := by
  rw [Int32.toInt_add, fb_bmod h1 h2]
theorem fb_subI {x y : Int32} (h1 : -2147483648 ≤ x.toInt - y.toInt) (h2 : x.toInt - y.toInt < 2147483648) : (x - y).toInt = x.toInt - y.toInt := by
  rw [Int32.toInt_sub, fb_bmod h1 h2]
theorem fb_mulI {x y : Int32} (h1 : -2147483648 ≤ x.toInt * y.toInt) (h2 : x.toInt * y.toInt < 2147483648) : (x * y).toInt = x.toInt * y.toInt := by
  rw [Int32.toInt_mul, fb_bmod h1 h2]
theorem fb_negI {x : Int32} (h : x.toInt ≠ -2147483648) : (-x).toInt = -x.toInt := by
  have := fb_rng x
  rw [Int32.toInt_neg, fb_bmod (by omega) (by omega)]
theorem fb_ofI {z : Int} (h1 : -2147483648 ≤ z) (h2 : z < 2147483648) : (Int32.ofInt z).toInt = z := by
  rw [Int32.toInt_ofInt, fb_bmod h1 h2]
theorem fb_asI (x : Int32) : Int32.ofInt x.toInt = x := Int32.ofInt_toInt x
theorem fb_rngL (x : Int64) : -9223372036854775808 ≤ x.toInt ∧ x.toInt < 9223372036854775808 := by
  have h1 := Int64.le_toInt x
  have h2 := Int64.toInt_lt x
  omega
theorem fb_bmodL {z : Int} (h1 : -9223372036854775808 ≤ z) (h2 : z < 9223372036854775808) : z.bmod (2 ^ 64) = z := by
  rw [Int.bmod_eq_of_le (by omega) (by omega)]
theorem fb_addL {x y : Int64} (h1 : -9223372036854775808 ≤ x.toInt + y.toInt) (h2 : x.toInt + y.toInt < 9223372036854775808) : (x + y).toInt = x.toInt + y.toInt := by
  rw [Int64.toInt_add, fb_bmodL h1 h2]
theorem fb_subL {x y : Int64} (h1 : -9223372036854775808 ≤ x.toInt - y.toInt) (h2 : x.toInt - y.toInt < 9223372036854775808) : (x - y).toInt = x.toInt - y.toInt := by
  rw [Int64.toInt_sub, fb_bmodL h1 h2]
theorem fb_mulL {x y : Int64} (h1 : -9223372036854775808 ≤ x.toInt * y.toInt) (h2 : x.toInt * y.toInt < 9223372036854775808) : (x * y).toInt = x.toInt * y.toInt := by
  rw [Int64.toInt_mul, fb_bmodL h1 h2]
/-! ===== cuts of what is narrow already ===== -/
theorem fb_byte {x : Int32} (h1 : -128 ≤ x.toInt) (h2 : x.toInt < 128) : x.toInt8.toInt32 = x := by
  apply Int32.toInt_inj.1
  rw [Int8.toInt_toInt32, Int32.toInt_toInt8, Int.bmod_eq_of_le (by omega) (by omega)]
theorem fb_short {x : Int32} (h1 : -32768 ≤ x.toInt) (h2 : x.toInt < 32768) : x.toInt16.toInt32 = x := by
  apply Int32.toInt_inj.1
  rw [Int16.toInt_toInt32, Int32.toInt_toInt16, Int.bmod_eq_of_le (by omega) (by omega)]
theorem fb_byte_rng (x : Int32) : -128 ≤ x.toInt8.toInt32.toInt ∧ x.toInt8.toInt32.toInt < 128 := by
  rw [Int8.toInt_toInt32]
  have h1 := Int8.le_toInt x.toInt8
  have h2 := Int8.toInt_lt x.toInt8
  omega
theorem fb_short_rng (x : Int32) : -32768 ≤ x.toInt16.toInt32.toInt ∧ x.toInt16.toInt32.toInt < 32768 := by
  rw [Int16.toInt_toInt32]
  have h1 := Int16.le_toInt x.toInt16
  have h2 := Int16.toInt_lt x.toInt16
  omega
theorem fb_byte_twice (x : Int32) : x.toInt8.toInt32.toInt8.toInt32 = x.toInt8.toInt32 := fb_byte (fb_byte_rng x).1 (fb_byte_rng x).2
theorem fb_short_twice (x : Int32) : x.toInt16.toInt32.toInt16.toInt32 = x.toInt16.toInt32 := fb_short (fb_short_rng x).1 (fb_short_rng x).2
theorem fb_char {n : Nat} (h : n < 65536) : (nI n).toUInt32.toUInt16.toUInt32.toInt32 = nI n := by
  apply Int32.toBitVec_inj.1
  apply BitVec.eq_of_toNat_eq
  have e1 : (nI n).toBitVec.toNat = n := by
    show (BitVec.ofNat 32 n).toNat = n
    rw [BitVec.toNat_ofNat, Nat.mod_eq_of_lt (by omega)]
  have e2 : ((nI n).toUInt32.toUInt16.toUInt32).toNat = n := by
    rw [UInt16.toNat_toUInt32, UInt32.toNat_toUInt16]
    show (nI n).toBitVec.toNat % 2 ^ 16 = n
    rw [e1, Nat.mod_eq_of_lt (by omega)]
  rw [e1]
  exact e2
end
section
/-! sets of bits: as ints, as numbers -/
theorem bt_nI (n i : Nat) : bt (nI n) i = (decide (i < 32) && n.testBit i) := by
  unfold bt
  show (BitVec.ofNat 32 n).getLsbD i = _
  rw [BitVec.getLsbD_ofNat]
/-- a bit of a set -/
theorem hasI {s k : Nat} (hk : k < 31) : ((nI s >>> (nI k &&& 31)) &&& 1 = 1) ↔ s.testBit k = true := by
  have h1 : ∀ i, i < 32 → bt ((nI s >>> (nI k &&& 31)) &&& 1) i = (decide (i = 0) && s.testBit k) := by
    intro i hi
    rw [b_and, b_sshr k (by omega) _ hi]
    have e1 : bt 1 i = decide (i = 0) := by
      have : ∀ i, i < 32 → bt 1 i = decide (i = 0) := by decide +kernel
      exact this i hi
    rw [e1]
    by_cases h0 : i = 0
    · subst h0
      rw [if_pos (by omega), bt_nI]
      simp
      omega
    · simp [h0]
  constructor
  · intro h
    have := h1 0 (by decide)
    rw [h] at this
    have e : bt 1 0 = true := by decide +kernel
    rw [e] at this
    simpa using this.symm
  · intro h
    apply b_ext
    intro i hi
    rw [h1 i hi, h]
    have : ∀ i, i < 32 → (decide (i = 0) && true) = bt 1 i := by decide +kernel
    exact this i hi
theorem shl1 {k : Nat} (hk : k < 31) : (1 : Int32) <<< (nI k &&& 31) = nI (2 ^ k) := by
  have : ∀ k, k < 31 → (1 : Int32) <<< (nI k &&& 31) = nI (2 ^ k) := by decide +kernel
  exact this k hk
/-- what is in one set and not in another -/
def dif (a b : Nat) : Nat := a ^^^ (a &&& b)
theorem dif_bit (a b i : Nat) : (dif a b).testBit i = (a.testBit i && !b.testBit i) := by
  unfold dif
  rw [Nat.testBit_xor, Nat.testBit_and]
  cases a.testBit i <;> cases b.testBit i <;> rfl
theorem difI (a b : Nat) : nI a &&& (nI b ^^^ (-1)) = nI (dif a b) := by
  apply b_ext
  intro i hi
  rw [b_and, b_xor, b_m1 i hi, bt_nI, bt_nI, bt_nI, dif_bit]
  simp [hi]
theorem bits_ext {a b n : Nat} (ha : a < 2 ^ n) (hb : b < 2 ^ n) (h : ∀ i, i < n → a.testBit i = b.testBit i) : a = b := by
  apply Nat.eq_of_testBit_eq
  intro i
  by_cases hi : i < n
  · exact h i hi
  · rw [Nat.testBit_lt_two_pow (Nat.lt_of_lt_of_le ha (Nat.pow_le_pow_right (by decide) (by omega))), Nat.testBit_lt_two_pow (Nat.lt_of_lt_of_le hb (Nat.pow_le_pow_right (by decide) (by omega)))]
theorem dif_0 {a b : Nat} : dif a b = 0 ↔ a &&& b = a := by
  unfold dif
  constructor
  · intro h
    have h2 : a ^^^ (a ^^^ (a &&& b)) = a ^^^ 0 := by rw [h]
    rw [← Nat.xor_assoc, Nat.xor_self, Nat.zero_xor, Nat.xor_zero] at h2
    exact h2
  · intro h
    rw [h, Nat.xor_self]
theorem dif_le (a b : Nat) {n : Nat} (h : a < 2 ^ n) : dif a b < 2 ^ n := Nat.xor_lt_two_pow h (Nat.lt_of_le_of_lt Nat.and_le_left h)
theorem all_bit {n i : Nat} : (2 ^ n - 1).testBit i = decide (i < n) := Nat.testBit_two_pow_sub_one n i
theorem and_all {a n : Nat} (h : a < 2 ^ n) : a &&& (2 ^ n - 1) = a := by rw [Nat.and_two_pow_sub_one_eq_mod, Nat.mod_eq_of_lt h]
theorem pw9 {n : Nat} (h : n ≤ 9) : 2 ^ n ≤ 512 := Nat.pow_le_pow_right (by decide) h
/-- (1 << n) - 1 -/
theorem all_I {n : Nat} (h : n ≤ 9) : (1 : Int32) <<< (nI n &&& 31) - 1 = nI (2 ^ n - 1) := by
  rw [shl1 (by omega)]
  have := Nat.two_pow_pos n
  obtain ⟨k, hk⟩ : ∃ k, 2 ^ n = k + 1 := ⟨2 ^ n - 1, by omega⟩
  rw [hk, nI_pred]
  rfl
/-- any of the first n -/
def anyB (p : Nat → Bool) : Nat → Bool
  | 0 => false
  | n + 1 => anyB p n || p n
theorem anyB_iff {p : Nat → Bool} : ∀ {n : Nat}, anyB p n = true ↔ ∃ k, k < n ∧ p k = true
  | 0 => by simp [anyB]
  | n + 1 => by
    have ih := anyB_iff (p := p) (n := n)
    simp only [anyB, Bool.or_eq_true, ih]
    constructor
    · rintro (⟨k, h1, h2⟩ | h)
      · exact ⟨k, by omega, h2⟩
      · exact ⟨n, by omega, h⟩
    · rintro ⟨k, h1, h2⟩
      by_cases e : k = n
      · subst e
        exact Or.inr h2
      · exact Or.inl ⟨k, by omega, h2⟩
/-- the first n bits by a predicate -/
def setB (p : Nat → Bool) : Nat → Nat
  | 0 => 0
  | n + 1 => setB p n ||| (if p n then 2 ^ n else 0)
theorem setB_bit (p : Nat → Bool) : ∀ (n i : Nat), (setB p n).testBit i = (decide (i < n) && p i)
  | 0, i => by simp [setB]
  | n + 1, i => by
    rw [setB, Nat.testBit_or, setB_bit p n i]
    by_cases h : p n
    · rw [if_pos h, Nat.testBit_two_pow]
      by_cases e : i = n
      · subst e
        simp [h]
      · have e2 : (i < n + 1) ↔ (i < n) := by omega
        have e3 : ¬ n = i := fun z => e z.symm
        simp [e2, e3]
    · rw [if_neg h]
      by_cases e : i = n
      · subst e
        simp [h]
      · have e2 : (i < n + 1) ↔ (i < n) := by omega
        simp [e2]
theorem setB_lt (p : Nat → Bool) : ∀ (n : Nat), setB p n < 2 ^ n
  | 0 => by simp [setB]
  | n + 1 => by
    have ih := setB_lt p n
    have : 2 ^ n < 2 ^ (n + 1) := Nat.pow_lt_pow_right (by decide) (by omega)
    refine Nat.or_lt_two_pow (by omega) ?_
    split
    · exact this
    · exact Nat.two_pow_pos _
/-! what is due, WAYS: of rulings q (kind, day, verdict, cites, how, marks), n of them; sk: more against; t: those that are there -/
abbrev Rq : Type := Nat → Nat → Int32
/-- how many of a set cite one against, for (but for one whose citation is left out) -/
def agN (n : Nat) (q : Rq) (u i : Nat) (left : Int32) : Nat := fa_cnt (fun j => (u.testBit j && (decide (q 3 j = nI i) && !decide (nI j = left))) && decide (q 4 j < 0)) n
def prN (n : Nat) (q : Rq) (u i : Nat) (left : Int32) : Nat := fa_cnt (fun j => (u.testBit j && (decide (q 3 j = nI i) && !decide (nI j = left))) && decide (0 < q 4 j)) n
def otB (n : Nat) (q : Rq) (u i : Nat) : Bool := anyB (fun j => u.testBit j && (!decide (j = i) && decide (q 1 j = q 1 i))) n
def bdB (u : Nat) (cited : Int32) : Bool := decide (cited = -9) || u.testBit cited.toNatClampNeg
def dueK (ag pr : Nat) (ot bd : Bool) (its : Int32) : Bool :=
  if its = 1 then decide (ag = 0) && bd else if its = 2 then decide (ag < 2) else if its = 3 then decide (ag = 0) && decide (0 < pr) else if its = 4 then decide (ag = 0) && (bd && ot) else if its = 5 then true else decide (ag = 0)
def dueB (n : Nat) (q : Rq) (sk : Nat → Nat) (u i : Nat) (its cited left : Int32) : Bool := dueK (sk i + agN n q u i left) (prN n q u i left) (otB n q u i) (bdB u cited) its
def dueS (n : Nat) (q : Rq) (sk : Nat → Nat) (t s : Nat) : Nat := setB (fun i => t.testBit i && dueB n q sk (s &&& t) i (q 0 i) (q 3 i) (-9)) n
def wayB (n : Nat) (q : Rq) (sk : Nat → Nat) (t s : Nat) : Bool := decide (dif s t = 0) && decide (dueS n q sk t s = s)
end
section
/-! the heap of the two objects: all ints in one function (cell, place), longs, the reader's source -/
def hr3 (j : Nat) : Option Nat := if j < 6 then some (34 + 2 * j) else none
def hr4 (j : Nat) : Option Nat := if j < 4 then some (46 + 2 * j) else none
def hr12 (j : Nat) : Option Nat := if j < 3 then some (54 + 7 * j) else none
def hc (L : Nat) (xs : Nat → Int32) (J : Nat → Int64) (s k : Nat) (f : Nat → Int32) : mm_C :=
  bif Nat.blt k 75 then
    (bif Nat.blt k 34 then
      (bif Nat.blt k 12 then
        (bif Nat.blt k 5 then (match k with | 0 => mE L xs | 1 => mE 6 mm_let | 2 => mO 5 [.ref 3, .ref 4, .ref 5, .ref 12, .ref 13, .ref 23, .ref 30, .ref 32, .ref 33, .int (f 9), .int (f 10), .long (J 0), .long (J 1)] | 3 => mR 3 6 hr3 | _ => mR 3 4 hr4)
          else bif Nat.beq k 5 then mO 1 [.ref 6, .ref 7, .ref 8, .ref 9, .ref 10, .ref 11, .int (f 6)] else mI 9 f)
        else bif Nat.blt k 23 then
          (bif Nat.beq k 12 then mR 1 3 hr12 else bif Nat.beq k 13 then mO 2 [.ref 14, .ref s, .int (f 2)] else bif Nat.beq k 14 then mO 1 [.ref 15, .ref 16, .ref 17, .ref 18, .ref 19, .ref 20, .int (f 6)] else bif Nat.blt k 21 then mI 9 f else bif Nat.beq k 21 then mO 3 [.ref 22, .int (f 1)] else mI 0 f)
          else (bif Nat.beq k 23 then mO 0 [.ref 24, .ref 25, .ref 26, .ref 27, .ref 28, .ref 29, .int (f 6), .int (f 7)] else bif Nat.blt k 30 then mI 9 f else bif Nat.beq k 30 then mO 4 [.ref 31, .int (f 1), .int (f 2), .int (f 3), .int (f 4)] else bif Nat.beq k 31 then mI 512 f else bif Nat.beq k 32 then mI 3 f else mI 6 f))
      else bif Nat.blt k 54 then (bif Nat.beq (k % 2) 0 then mO 3 [.ref (k + 1), .int (f 1)] else bif Nat.blt k 46 then mI 40 f else mI 80 f)
        else (bif Nat.beq ((k - 54) % 7) 0 then mO 1 [.ref (k + 1), .ref (k + 2), .ref (k + 3), .ref (k + 4), .ref (k + 5), .ref (k + 6), .int (f 6)] else mI 9 f))
    else bif Nat.blt k 82 then
      (bif Nat.beq k 75 then mO 6 [.ref 76, .ref 77, .ref 78, .ref 79, .ref 80, .int (f 5), .ref 81, .int (f 7), .long (J 2), .long (J 3), .int (f 10), .ref 82, .ref 83, .ref 84, .ref 85, .ref 86, .ref 87, .ref 88, .ref 89, .int (f 19), .ref 90, .int (f 21), .int (f 22), .ref 91, .ref 92, .int (f 25), .int (f 26)]
        else bif Nat.beq k 76 then mI 6 f else bif Nat.beq k 77 then mI 240 f else bif Nat.beq k 78 then mI 4 f else bif Nat.beq k 79 then mI 320 f else bif Nat.beq k 80 then mI 40 f else mI 6 f)
      else (bif Nat.blt k 88 then mI 9 f else bif Nat.beq k 88 then mI 3 f else bif Nat.beq k 89 then mI 162 f else bif Nat.beq k 90 then mI 9 f else bif Nat.beq k 91 then mI 6 f else bif Nat.beq k 92 then mI 9 f else mO 99 [])
/-- the heap -/
def hH (L : Nat) (xs : Nat → Int32) (J : Nat → Int64) (s : Nat) (F : Nat → Nat → Int32) : mm_H := (93, fun k => hc L xs J s k (F k))
def upF (F : Nat → Nat → Int32) (k : Nat) (g : Nat → Int32) : Nat → Nat → Int32 := fun a => if a = k then g else F a
/-- one int of the heap is another one -/
def up2 (F : Nat → Nat → Int32) (k j : Nat) (x : Int32) : Nat → Nat → Int32 := upF F k (upd (F k) j x)
theorem hp {L : Nat} {xs : Nat → Int32} {J : Nat → Int64} {s k : Nat} {F : Nat → Nat → Int32} {g : Nat → Int32} {c : mm_C} (e : hc L xs J s k g = c) : mU (hH L xs J s F).2 k c = (hH L xs J s (upF F k g)).2 := by
  funext a
  by_cases h : a = k
  · subst h
    simp [mU, hH, upF, e]
  · simp [mU, hH, upF, h]
theorem hp1 {L : Nat} {xs : Nat → Int32} {J : Nat → Int64} {s k : Nat} {F : Nat → Nat → Int32} {g : Nat → Int32} {c : mm_C} (e : hc L xs J s k g = c) : ((93, mU (hH L xs J s F).2 k c) : mm_H) = hH L xs J s (upF F k g) := by rw [hp e]; rfl
theorem hp2 {L : Nat} {xs : Nat → Int32} {J : Nat → Int64} {s k k2 : Nat} {F : Nat → Nat → Int32} {g g2 : Nat → Int32} {c c2 : mm_C} (e : hc L xs J s k g = c) (e2 : hc L xs J s k2 g2 = c2) : ((93, mU (mU (hH L xs J s F).2 k c) k2 c2) : mm_H) = hH L xs J s (upF (upF F k g) k2 g2) := by rw [hp e]; exact hp1 e2
theorem hp3 {L : Nat} {xs : Nat → Int32} {J : Nat → Int64} {s k k2 k3 : Nat} {F : Nat → Nat → Int32} {g g2 g3 : Nat → Int32} {c c2 c3 : mm_C} (e : hc L xs J s k g = c) (e2 : hc L xs J s k2 g2 = c2) (e3 : hc L xs J s k3 g3 = c3) : ((93, mU (mU (mU (hH L xs J s F).2 k c) k2 c2) k3 c3) : mm_H) = hH L xs J s (upF (upF (upF F k g) k2 g2) k3 g3) := by rw [hp e]; exact hp2 e2 e3
/-- a claim of the heap, of an equal heap -/
theorem kh {K : mm_K} {r : Option Value} {h h' : mm_H} (e : h = h') (q : K r h') : K r h := e ▸ q
theorem kx {d μ ip : Nat} {al : Nat × Nat} {ls st : List Value} {h h' : mm_H} {K : mm_K} (e : h = h') (q : mm_Ex d μ ip al ls st h' K) : mm_Ex d μ ip al ls st h K := e ▸ q
def b2i (c : Prop) [Decidable c] : Int32 := if c then 1 else 0
theorem b2i_t {c : Prop} [Decidable c] (h : c) : b2i c = 1 := if_pos h
theorem b2i_f {c : Prop} [Decidable c] (h : ¬ c) : b2i c = 0 := if_neg h
theorem b2i_01 {c : Prop} [Decidable c] : b2i c = 0 ∨ b2i c = 1 := by
  by_cases h : c
  · exact Or.inr (b2i_t h)
  · exact Or.inl (b2i_f h)
theorem b2i_0 {c : Prop} [Decidable c] : b2i c = 0 ↔ ¬ c := by
  by_cases h : c
  · simp [b2i, h]
  · simp [b2i, h]
end
section
theorem hp4 {L : Nat} {xs : Nat → Int32} {J : Nat → Int64} {s k k2 k3 k4 : Nat} {F : Nat → Nat → Int32} {g g2 g3 g4 : Nat → Int32} {c c2 c3 c4 : mm_C} (e : hc L xs J s k g = c) (e2 : hc L xs J s k2 g2 = c2) (e3 : hc L xs J s k3 g3 = c3) (e4 : hc L xs J s k4 g4 = c4) : ((93, (mU (mU (mU (mU (hH L xs J s F).2 k c) k2 c2) k3 c3) k4 c4)) : mm_H) = hH L xs J s (upF (upF (upF (upF F k g) k2 g2) k3 g3) k4 g4) := by rw [hp e]; exact hp3 e2 e3 e4
theorem hp5 {L : Nat} {xs : Nat → Int32} {J : Nat → Int64} {s k k2 k3 k4 k5 : Nat} {F : Nat → Nat → Int32} {g g2 g3 g4 g5 : Nat → Int32} {c c2 c3 c4 c5 : mm_C} (e : hc L xs J s k g = c) (e2 : hc L xs J s k2 g2 = c2) (e3 : hc L xs J s k3 g3 = c3) (e4 : hc L xs J s k4 g4 = c4) (e5 : hc L xs J s k5 g5 = c5) : ((93, (mU (mU (mU (mU (mU (hH L xs J s F).2 k c) k2 c2) k3 c3) k4 c4) k5 c5)) : mm_H) = hH L xs J s (upF (upF (upF (upF (upF F k g) k2 g2) k3 g3) k4 g4) k5 g5) := by rw [hp e]; exact hp4 e2 e3 e4 e5
theorem hp6 {L : Nat} {xs : Nat → Int32} {J : Nat → Int64} {s k k2 k3 k4 k5 k6 : Nat} {F : Nat → Nat → Int32} {g g2 g3 g4 g5 g6 : Nat → Int32} {c c2 c3 c4 c5 c6 : mm_C} (e : hc L xs J s k g = c) (e2 : hc L xs J s k2 g2 = c2) (e3 : hc L xs J s k3 g3 = c3) (e4 : hc L xs J s k4 g4 = c4) (e5 : hc L xs J s k5 g5 = c5) (e6 : hc L xs J s k6 g6 = c6) : ((93, (mU (mU (mU (mU (mU (mU (hH L xs J s F).2 k c) k2 c2) k3 c3) k4 c4) k5 c5) k6 c6)) : mm_H) = hH L xs J s (upF (upF (upF (upF (upF (upF F k g) k2 g2) k3 g3) k4 g4) k5 g5) k6 g6) := by rw [hp e]; exact hp5 e2 e3 e4 e5 e6
theorem hp7 {L : Nat} {xs : Nat → Int32} {J : Nat → Int64} {s k k2 k3 k4 k5 k6 k7 : Nat} {F : Nat → Nat → Int32} {g g2 g3 g4 g5 g6 g7 : Nat → Int32} {c c2 c3 c4 c5 c6 c7 : mm_C} (e : hc L xs J s k g = c) (e2 : hc L xs J s k2 g2 = c2) (e3 : hc L xs J s k3 g3 = c3) (e4 : hc L xs J s k4 g4 = c4) (e5 : hc L xs J s k5 g5 = c5) (e6 : hc L xs J s k6 g6 = c6) (e7 : hc L xs J s k7 g7 = c7) : ((93, (mU (mU (mU (mU (mU (mU (mU (hH L xs J s F).2 k c) k2 c2) k3 c3) k4 c4) k5 c5) k6 c6) k7 c7)) : mm_H) = hH L xs J s (upF (upF (upF (upF (upF (upF (upF F k g) k2 g2) k3 g3) k4 g4) k5 g5) k6 g6) k7 g7) := by rw [hp e]; exact hp6 e2 e3 e4 e5 e6 e7
theorem hp8 {L : Nat} {xs : Nat → Int32} {J : Nat → Int64} {s k k2 k3 k4 k5 k6 k7 k8 : Nat} {F : Nat → Nat → Int32} {g g2 g3 g4 g5 g6 g7 g8 : Nat → Int32} {c c2 c3 c4 c5 c6 c7 c8 : mm_C} (e : hc L xs J s k g = c) (e2 : hc L xs J s k2 g2 = c2) (e3 : hc L xs J s k3 g3 = c3) (e4 : hc L xs J s k4 g4 = c4) (e5 : hc L xs J s k5 g5 = c5) (e6 : hc L xs J s k6 g6 = c6) (e7 : hc L xs J s k7 g7 = c7) (e8 : hc L xs J s k8 g8 = c8) : ((93, (mU (mU (mU (mU (mU (mU (mU (mU (hH L xs J s F).2 k c) k2 c2) k3 c3) k4 c4) k5 c5) k6 c6) k7 c7) k8 c8)) : mm_H) = hH L xs J s (upF (upF (upF (upF (upF (upF (upF (upF F k g) k2 g2) k3 g3) k4 g4) k5 g5) k6 g6) k7 g7) k8 g8) := by rw [hp e]; exact hp7 e2 e3 e4 e5 e6 e7 e8
end
section
/-! the reference: small methods, rows, texts -/
theorem tn_nI {n : Nat} (h : n < 2 ^ 31) : (nI n).toNatClampNeg = n := nI_clamp h
/-- a number between 0 and a bound is one of few -/
theorem in_nI {x : Int32} {n : Nat} (hn : n < 2 ^ 31) (h0 : 0 ≤ x) (h1 : x ≤ nI n) : ∃ j, j ≤ n ∧ x = nI j := by
  rw [Int32.le_iff_toInt_le] at h0 h1
  rw [nI_toInt hn] at h1
  rw [Int32.toInt_zero] at h0
  refine ⟨x.toInt.toNat, by omega, ?_⟩
  apply Int32.toInt_inj.mp
  rw [nI_toInt (by omega)]
  omega
theorem lt_nI {x : Int32} {n : Nat} (hn : n < 2 ^ 31) (h0 : 0 ≤ x) (h1 : x < nI n) : ∃ j, j < n ∧ x = nI j := by
  rw [Int32.le_iff_toInt_le] at h0
  rw [Int32.lt_iff_toInt_lt, nI_toInt hn] at h1
  rw [Int32.toInt_zero] at h0
  refine ⟨x.toInt.toNat, by omega, ?_⟩
  apply Int32.toInt_inj.mp
  rw [nI_toInt (by omega)]
  omega
/-- finds, tells as changes of the ints -/
def S_fi (F : Nat → Nat → Int32) (w : Nat) : Nat → Nat → Int32 := up2 (up2 F 75 5 (nI w)) 81 w (F 81 w + 1)
def S_te (F : Nat → Nat → Int32) (v : Int32) : Nat → Nat → Int32 := up2 F 75 7 v
section MB
variable {d L s : Nat} {xs : Nat → Int32} {J : Nat → Int64} {F : Nat → Nat → Int32} {K : mm_K} {h : mm_H}
theorem s_in {v lo hi : Int32} (hk : K (some (.int (b2i (lo ≤ v ∧ v ≤ hi)))) h) : mm_call mm_Ex d k_X6_in [.int v, .int lo, .int hi] h K := by
  have J : ∀ x, x = b2i (lo ≤ v ∧ v ≤ hi) → mm_Ex d k_X6_in 9 (0, 0) [.int v, .int lo, .int hi] [.int x] h K := fun x e => by
    refine mm_run 5 ⟨?_, ?_⟩
    · rw [e]; exact b2i_01
    · rw [e]; exact hk
  refine mm_run 50 (And.intro (fun c => ?_) (fun c => And.intro (fun c2 => ?_) (fun c2 => ?_)))
  · refine mm_run 50 (J 0 (b2i_f ?_).symm)
    exact fun q => Int32.not_le.mpr c q.1
  · refine mm_run 50 (J 0 (b2i_f ?_).symm)
    exact fun q => Int32.not_le.mpr c2 q.2
  · exact J 1 (b2i_t ⟨Int32.not_lt.mp c, Int32.not_lt.mp c2⟩).symm
theorem s_isRow {v : Int32} (hk : K (some (.int (b2i (0 ≤ v ∧ v ≤ 5)))) h) : mm_call mm_Ex (d + 1) k_X6_isRow [.int v] h K := by
  refine mm_run 50 (s_in ⟨b2i_01, hk⟩)
theorem s_isText {v : Int32} (hk : K (some (.int (b2i (0 ≤ v ∧ v ≤ 3)))) h) : mm_call mm_Ex (d + 1) k_X6_isText [.int v] h K := by
  refine mm_run 50 (s_in ⟨b2i_01, hk⟩)
theorem s_finds {w : Nat} (hw : w < 6) (hk : K (some (.int (-3))) (hH L xs J s (S_fi F w))) : mm_call mm_Ex d k_X6_finds [.ref 75, .int (nI w)] (hH L xs J s F) K := by
  have hv : vp_in (nI w) 6 := vp_in_nI hw (by decide)
  refine mm_run 50 ⟨hv, hv, ?_⟩
  have e : (nI w).toNatClampNeg = w := nI_clamp (by omega)
  rw [e]
  exact kh (hp2 rfl rfl) hk
theorem s_tells {v : Int32} (hk : K (some (.int 1)) (hH L xs J s (S_te F v))) : mm_call mm_Ex d k_X6_tells [.ref 75, .int v] (hH L xs J s F) K := by
  refine mm_run 50 ?_
  exact kh (hp1 rfl) hk
end MB
theorem isRow_of {v : Int32} (c : ¬ b2i (0 ≤ v ∧ v ≤ 5) = 0) : ∃ r, r < 6 ∧ v = nI r := by
  rw [b2i_0] at c
  have c := Classical.not_not.mp c
  obtain ⟨j, h1, h2⟩ := in_nI (n := 5) (by decide) c.1 c.2
  exact ⟨j, by omega, h2⟩
theorem isRow_no {v : Int32} (c : b2i (0 ≤ v ∧ v ≤ 5) = 0) : ¬ (0 ≤ v ∧ v ≤ 5) := b2i_0.mp c
/-- a row's size is none, or small -/
def szOk (x : Int32) (m : Nat) : Prop := x = -9 ∨ ∃ z, z ≤ m ∧ x = nI z
/-- a counted loop, from its end back to its start -/
theorem lp {P : Nat → Prop} {n : Nat} (hn : P n) (hs : ∀ i, i < n → P (i + 1) → P i) : P 0 := by
  have H : ∀ k i, i + k = n → P i := by
    intro k
    induction k with
    | zero =>
      intro i hi
      have e : i = n := by omega
      rw [e]
      exact hn
    | succ k ih =>
      intro i hi
      exact hs i (by omega) (ih (i + 1) (by omega))
  exact H n 0 (by omega)
theorem hHx {L : Nat} {xs : Nat → Int32} {J : Nat → Int64} {s : Nat} {F F' : Nat → Nat → Int32} (h : ∀ a, F a = F' a) : hH L xs J s F = hH L xs J s F' := by
  have e : F = F' := funext h
  rw [e]
/-- places from lo on, n of them, hold a value -/
def fil (f : Nat → Int32) (lo n : Nat) (v : Int32) : Nat → Int32 := fun x => if lo ≤ x ∧ x < lo + n then v else f x
theorem fil_0 {f : Nat → Int32} {lo : Nat} {v : Int32} : fil f lo 0 v = f := by
  funext x
  unfold fil
  rw [if_neg (by omega)]
theorem fil_s {f : Nat → Int32} {lo n : Nat} {v : Int32} : upd (fil f lo n v) (lo + n) v = fil f lo (n + 1) v := by
  funext x
  unfold fil upd
  by_cases h : x = lo + n
  · subst h
    rw [if_pos rfl, if_pos (by omega)]
  · rw [if_neg h]
    show (if lo ≤ x ∧ x < lo + n then v else f x) = _
    by_cases h2 : lo ≤ x ∧ x < lo + n
    · rw [if_pos h2, if_pos (by omega)]
    · rw [if_neg h2, if_neg (by omega)]
theorem upF_same {F : Nat → Nat → Int32} {k : Nat} {g g' : Nat → Int32} : upF (upF F k g) k g' = upF F k g' := by
  funext a
  simp only [upF]
  split <;> rfl
theorem upF_id {F : Nat → Nat → Int32} {k : Nat} : upF F k (F k) = F := by
  funext a
  simp only [upF]
  split
  · rename_i e
    rw [e]
  · rfl
/-- 40 r + i, 80 t + i, as numbers -/
theorem ix {c j i : Nat} : nI c * nI j + nI i = nI (c * j + i) := by rw [pk_mul, nI_add]
theorem nleI {a b : Nat} (h : a < b) (hb : b < 2 ^ 31) : ¬ nI b ≤ nI a := fun q => absurd ((nI_leI hb (by omega)).mp q) (by omega)
theorem not_not_b {c : Prop} [Decidable c] (h : ¬ b2i c = 0) : c := Classical.not_not.mp (fun q => h (b2i_0.mpr q))
/-- row(r, n) -/
def S_row (F : Nat → Nat → Int32) (r n : Int32) : Int32 × (Nat → Nat → Int32) :=
  if (0 ≤ r ∧ r ≤ 5) ∧ n ≤ 40 then (if 0 ≤ n then (n, upF (up2 F 76 (r.toNatClampNeg) n) 77 (fil (F 77) (40 * r.toNatClampNeg) 40 0)) else (-3, S_fi F 5)) else (-1, F)
def S_lay (F : Nat → Nat → Int32) (r i v : Int32) : Int32 × (Nat → Nat → Int32) :=
  if 0 ≤ r ∧ r ≤ 5 then (if 0 ≤ F 76 (r.toNatClampNeg) then (if 0 ≤ i ∧ i ≤ F 76 (r.toNatClampNeg) - 1 then (1, S_te (up2 F 77 ((40 * r + i).toNatClampNeg) v) (F 77 ((40 * r + i).toNatClampNeg))) else (-3, S_fi F 2)) else (-3, S_fi F 1)) else (-1, F)
def S_at (F : Nat → Nat → Int32) (r i : Int32) : Int32 × (Nat → Nat → Int32) :=
  if 0 ≤ r ∧ r ≤ 5 then (if 0 ≤ F 76 (r.toNatClampNeg) then (if 0 ≤ i ∧ i ≤ F 76 (r.toNatClampNeg) - 1 then (1, S_te F (F 77 ((40 * r + i).toNatClampNeg))) else (-3, S_fi F 2)) else (-3, S_fi F 1)) else (-1, F)
def S_tear (F : Nat → Nat → Int32) (r : Int32) : Int32 × (Nat → Nat → Int32) :=
  if 0 ≤ r ∧ r ≤ 5 then (if 0 ≤ F 76 (r.toNatClampNeg) then (1, up2 F 76 (r.toNatClampNeg) (-9)) else (-3, S_fi F 1)) else (-1, F)
/-- sizes of rows and texts: none, or small -/
def G_sz (F : Nat → Nat → Int32) : Prop := (∀ r, r < 6 → szOk (F 76 r) 40) ∧ ∀ t, t < 4 → szOk (F 78 t) 80
theorem sz_pos {x : Int32} {m : Nat} (h : szOk x m) (hm : m < 2 ^ 31) (h0 : 0 ≤ x) : ∃ z, z ≤ m ∧ x = nI z := by
  rcases h with h | h
  · rw [h] at h0
    exact absurd h0 (by decide)
  · exact h
theorem kc {d μ : Nat} {as : List Value} {h h' : mm_H} {K : mm_K} (e : h = h') (q : mm_call mm_Ex d μ as h' K) : mm_call mm_Ex d μ as h K := e ▸ q
/-- a place within a size -/
theorem pl_of {i : Int32} {z : Nat} (hz : z < 2 ^ 31) (h : 0 ≤ i ∧ i ≤ nI z - 1) : ∃ p, p < z ∧ i = nI p := by
  obtain ⟨h0, h1⟩ := h
  rcases z with _ | z
  · have : i ≤ (-1 : Int32) := h1
    exact absurd (Int32.le_trans h0 this) (by decide)
  · rw [nI_pred] at h1
    obtain ⟨j, a, b⟩ := in_nI (by omega) h0 h1
    exact ⟨j, by omega, b⟩
theorem vpR {v : Int32} (c : ¬ b2i (0 ≤ v ∧ v ≤ 5) = 0) : vp_in v 6 := by
  obtain ⟨j, hj, rfl⟩ := isRow_of c
  exact vp_in_nI hj (by decide)
theorem vpT {v : Int32} (c : ¬ b2i (0 ≤ v ∧ v ≤ 3) = 0) : vp_in v 4 := by
  obtain ⟨j, h1, rfl⟩ := in_nI (n := 3) (by decide) (not_not_b c).1 (not_not_b c).2
  exact vp_in_nI (by omega) (by decide)
theorem isText_of {v : Int32} (c : ¬ b2i (0 ≤ v ∧ v ≤ 3) = 0) : ∃ r, r < 4 ∧ v = nI r := by
  obtain ⟨j, h1, h2⟩ := in_nI (n := 3) (by decide) (not_not_b c).1 (not_not_b c).2
  exact ⟨j, by omega, h2⟩
/-- a place of the rows -/
theorem vpP {F : Nat → Nat → Int32} (hG : G_sz F) {r i : Int32} (c : ¬ b2i (0 ≤ r ∧ r ≤ 5) = 0) (c3 : 0 ≤ F 76 (r.toNatClampNeg)) (c4 : ¬ b2i (0 ≤ i ∧ i ≤ F 76 (r.toNatClampNeg) - 1) = 0) : ∃ j p z, r = nI j ∧ i = nI p ∧ F 76 j = nI z ∧ j < 6 ∧ p < z ∧ z ≤ 40 ∧ 40 * r + i = nI (40 * j + p) ∧ vp_in (40 * r + i) 240 := by
  obtain ⟨j, hj, rfl⟩ := isRow_of c
  have e : (nI j).toNatClampNeg = j := tn_nI (by omega)
  rw [e] at c3 c4
  obtain ⟨z, hz, ez⟩ := sz_pos (hG.1 j hj) (by decide) c3
  have c6 := not_not_b c4
  rw [ez] at c6
  obtain ⟨p, hp', rfl⟩ := pl_of (by omega) c6
  have e2 : (40 : Int32) * nI j + nI p = nI (40 * j + p) := ix (c := 40)
  refine ⟨j, p, z, rfl, rfl, ez, hj, hp', hz, e2, ?_⟩
  rw [e2]
  exact vp_in_nI (by omega) (by decide)
section MR
variable {d L s : Nat} {xs : Nat → Int32} {J : Nat → Int64} {F : Nat → Nat → Int32} {K : mm_K} {h : mm_H}
theorem m_row {r n : Int32} (hk : K (some (.int (S_row F r n).1)) (hH L xs J s (S_row F r n).2)) : mm_call mm_Ex (d + 2) k_X6_row [.ref 75, .int r, .int n] (hH L xs J s F) K := by
  unfold S_row at hk
  have B : ¬ ((0 ≤ r ∧ r ≤ 5) ∧ n ≤ 40) → mm_Ex (d + 2) k_X6_row 6 (0, 0) [.ref 75, .int r, .int n, .null] [] (hH L xs J s F) K := by
    intro c
    rw [if_neg c] at hk
    exact mm_run 5 hk
  refine mm_run 50 (s_isRow (And.intro (fun c => B (fun q => b2i_0.mp c q.1)) (fun c => And.intro (fun c2 => ?_) (fun c2 => B (fun q => c2 q.2)))))
  rw [if_pos ⟨not_not_b c, c2⟩] at hk
  refine And.intro (fun c3 => ⟨vpR c, ?_⟩) (fun c3 => ?_)
  · rw [if_pos c3] at hk
    obtain ⟨j, hj, rfl⟩ := isRow_of c
    have ej : (nI j).toNatClampNeg = j := tn_nI (by omega)
    rw [ej] at hk
    refine lp (n := 40) (P := fun i => ∀ x h, x = nI i → h = hH L xs J s (upF (up2 F 76 j n) 77 (fil (F 77) (40 * j) i 0)) → mm_Ex (d + 2) k_X6_row 21 (0, 0) [.ref 75, .int (nI j), .int n, .int x] [] h K) ?_ ?_ 0 _ rfl ?_
    · intro x h hx hh
      subst hx hh
      exact mm_run 50 (And.intro (fun _ => hk) (fun c => absurd (show (40 : Int32) ≤ nI 40 by decide) c))
    · intro i hi ih x h hx hh
      subst hx hh
      have e : (40 : Int32) * nI j + nI i = nI (40 * j + i) := ix (c := 40)
      have e2 : ((40 : Int32) * nI j + nI i).toNatClampNeg = 40 * j + i := by rw [e]; exact tn_nI (by omega)
      refine mm_run 50 (And.intro (fun c => absurd c (nleI (b := 40) hi (by decide))) (fun c => ⟨by rw [e]; exact vp_in_nI (by omega) (by decide), ?_⟩))
      refine ih _ _ (nI_1 i) ((hp1 rfl).trans (hHx fun a => ?_))
      rw [upF_same]
      show upF _ 77 (upd (fil (F 77) (40 * j) i 0) (((40 : Int32) * nI j + nI i).toNatClampNeg) 0) a = _
      rw [e2, fil_s]
    · rw [fil_0]
      refine (hp1 rfl).trans (hHx fun a => ?_)
      show up2 F 76 ((nI j).toNatClampNeg) n a = _
      rw [ej]
      exact congrFun (upF_id (F := up2 F 76 j n) (k := 77)).symm a
  · rw [if_neg c3] at hk
    exact s_finds (w := 5) (by decide) hk
theorem m_tear {r : Int32} (hk : K (some (.int (S_tear F r).1)) (hH L xs J s (S_tear F r).2)) : mm_call mm_Ex (d + 2) k_X6_tear [.ref 75, .int r] (hH L xs J s F) K := by
  unfold S_tear at hk
  refine mm_run 50 (s_isRow (And.intro (fun c => ⟨vpR c, And.intro (fun c3 => ⟨vpR c, ?_⟩) (fun c3 => ?_)⟩) (fun c => ?_)))
  · rw [if_pos (not_not_b c), if_pos c3] at hk
    exact kh (hp1 rfl) hk
  · rw [if_pos (not_not_b c), if_neg c3] at hk
    exact s_finds (w := 1) (by decide) hk
  · rw [if_neg (b2i_0.mp c)] at hk
    exact hk
theorem m_lay (hG : G_sz F) {r i v : Int32} (hk : K (some (.int (S_lay F r i v).1)) (hH L xs J s (S_lay F r i v).2)) : mm_call mm_Ex (d + 2) k_X6_lay [.ref 75, .int r, .int i, .int v] (hH L xs J s F) K := by
  unfold S_lay at hk
  refine mm_run 50 (s_isRow (And.intro (fun c => ⟨vpR c, And.intro (fun c3 => ⟨vpR c, s_in (And.intro (fun c4 => ?_) (fun c4 => ?_))⟩) (fun c3 => ?_)⟩) (fun c => ?_)))
  · obtain ⟨j, p, z, e1, e2, e3, e4, e5, e6, e7, hv⟩ := vpP hG c c3 c4
    rw [if_pos (not_not_b c), if_pos c3, if_pos (not_not_b c4)] at hk
    refine ⟨hv, hv, ?_⟩
    exact kc (hp1 rfl) (s_tells hk)
  · rw [if_pos (not_not_b c), if_pos c3, if_neg (b2i_0.mp c4)] at hk
    exact s_finds (w := 2) (by decide) hk
  · rw [if_pos (not_not_b c), if_neg c3] at hk
    exact s_finds (w := 1) (by decide) hk
  · rw [if_neg (b2i_0.mp c)] at hk
    exact hk
theorem m_at (hG : G_sz F) {r i : Int32} (hk : K (some (.int (S_at F r i).1)) (hH L xs J s (S_at F r i).2)) : mm_call mm_Ex (d + 2) k_X6_at [.ref 75, .int r, .int i] (hH L xs J s F) K := by
  unfold S_at at hk
  refine mm_run 50 (s_isRow (And.intro (fun c => ⟨vpR c, And.intro (fun c3 => ⟨vpR c, s_in (And.intro (fun c4 => ?_) (fun c4 => ?_))⟩) (fun c3 => ?_)⟩) (fun c => ?_)))
  · rw [if_pos (not_not_b c), if_pos c3, if_neg (b2i_0.mp c4)] at hk
    exact s_finds (w := 2) (by decide) (mm_run 5 hk)
  · obtain ⟨j, p, z, e1, e2, e3, e4, e5, e6, e7, hv⟩ := vpP hG c c3 c4
    rw [if_pos (not_not_b c), if_pos c3, if_pos (not_not_b c4)] at hk
    exact ⟨hv, s_tells (mm_run 5 hk)⟩
  · rw [if_pos (not_not_b c), if_neg c3] at hk
    exact s_finds (w := 1) (by decide) hk
  · rw [if_neg (b2i_0.mp c)] at hk
    exact hk
end MR
end
section
/-! the reference: copy, mean, texts -/
/-- equal but for what the reference keeps as scratch -/
def CE (F F' : Nat → Nat → Int32) : Prop := (∀ k, k ≠ 75 → k ≠ 80 → k ≠ 90 → k ≠ 91 → k ≠ 92 → F k = F' k) ∧ ∀ j, j ≠ 19 → j ≠ 21 → j ≠ 22 → j ≠ 25 → j ≠ 26 → F 75 j = F' 75 j
theorem CE.rf {F : Nat → Nat → Int32} : CE F F := ⟨fun _ _ _ _ _ _ => rfl, fun _ _ _ _ _ _ => rfl⟩
def part (z i n : Int32) : Prop := 0 ≤ i ∧ i ≤ z ∧ n ≤ z - i
def S_copy (F : Nat → Nat → Int32) (r i to j n : Int32) : Int32 × (Nat → Nat → Int32) :=
  if (0 ≤ r ∧ r ≤ 5) ∧ (0 ≤ to ∧ to ≤ 5) then (if 0 ≤ n then (if 0 ≤ F 76 (r.toNatClampNeg) ∧ 0 ≤ F 76 (to.toNatClampNeg) then (if (0 ≤ i ∧ i ≤ F 76 (r.toNatClampNeg) ∧ n ≤ F 76 (r.toNatClampNeg) - i) ∧ (0 ≤ j ∧ j ≤ F 76 (to.toNatClampNeg) ∧ n ≤ F 76 (to.toNatClampNeg) - j) then (1, upF F 77 (va_cpy (F 77) (F 77) (40 * r.toNatClampNeg + i.toNatClampNeg) (40 * to.toNatClampNeg + j.toNatClampNeg) (n.toNatClampNeg))) else (-3, S_fi F 2)) else (-3, S_fi F 1)) else (-3, S_fi F 5)) else (-1, F)
def sumL (f : Nat → Int32) : Nat → Int64
  | 0 => 0
  | n + 1 => sumL f n + (f n).toInt64
def S_mean (F : Nat → Nat → Int32) (r : Int32) : Int32 × (Nat → Nat → Int32) :=
  if 0 ≤ r ∧ r ≤ 5 then (if 0 ≤ F 76 (r.toNatClampNeg) then (if F 76 (r.toNatClampNeg) = 0 then (-3, S_fi F 4) else (1, S_te F (sumL (fun k => F 77 (40 * r.toNatClampNeg + k)) ((F 76 (r.toNatClampNeg)).toNatClampNeg) / (F 76 (r.toNatClampNeg)).toInt64).toInt32)) else (-3, S_fi F 1)) else (-1, F)
def S_text (F : Nat → Nat → Int32) (t n : Int32) : Int32 × (Nat → Nat → Int32) :=
  if (0 ≤ t ∧ t ≤ 3) ∧ n ≤ 80 then (if 0 ≤ n then (n, upF (up2 F 78 (t.toNatClampNeg) n) 79 (fil (F 79) (80 * t.toNatClampNeg) 80 32)) else (-3, S_fi F 5)) else (-1, F)
def S_put (F : Nat → Nat → Int32) (t i v : Int32) : Int32 × (Nat → Nat → Int32) :=
  if 0 ≤ t ∧ t ≤ 3 then (if 0 ≤ F 78 (t.toNatClampNeg) then (if 0 ≤ i ∧ i ≤ F 78 (t.toNatClampNeg) - 1 then (1000 + F 79 ((80 * t + i).toNatClampNeg), up2 F 79 ((80 * t + i).toNatClampNeg) (v <<< (24 &&& 31) >>> (24 &&& 31))) else (-3, S_fi F 2)) else (-3, S_fi F 1)) else (-1, F)
theorem vpPt {F : Nat → Nat → Int32} (hG : G_sz F) {r i : Int32} (c : ¬ b2i (0 ≤ r ∧ r ≤ 3) = 0) (c3 : 0 ≤ F 78 (r.toNatClampNeg)) (c4 : ¬ b2i (0 ≤ i ∧ i ≤ F 78 (r.toNatClampNeg) - 1) = 0) : ∃ j p z, r = nI j ∧ i = nI p ∧ F 78 j = nI z ∧ j < 4 ∧ p < z ∧ z ≤ 80 ∧ 80 * r + i = nI (80 * j + p) ∧ vp_in (80 * r + i) 320 := by
  obtain ⟨j, hj, rfl⟩ := isText_of c
  have e : (nI j).toNatClampNeg = j := tn_nI (by omega)
  rw [e] at c3 c4
  obtain ⟨z, hz, ez⟩ := sz_pos (hG.2 j hj) (by decide) c3
  have c6 := not_not_b c4
  rw [ez] at c6
  obtain ⟨p, hp', rfl⟩ := pl_of (by omega) c6
  have e2 : (80 : Int32) * nI j + nI p = nI (80 * j + p) := ix (c := 80)
  refine ⟨j, p, z, rfl, rfl, ez, hj, hp', hz, e2, ?_⟩
  rw [e2]
  exact vp_in_nI (by omega) (by decide)
/-- a run of places within a row -/
theorem part_of {z i n : Int32} {Z : Nat} (hz : z = nI Z) (hZ : Z ≤ 40) (hn : 0 ≤ n) (h : 0 ≤ i ∧ i ≤ z ∧ n ≤ z - i) : ∃ p q, i = nI p ∧ n = nI q ∧ p + q ≤ Z := by
  obtain ⟨h0, h1, h2⟩ := h
  subst hz
  obtain ⟨p, hp, rfl⟩ := in_nI (by omega) h0 h1
  rw [pk_sub hp] at h2
  obtain ⟨q, hq, rfl⟩ := in_nI (by omega) hn h2
  exact ⟨p, q, rfl, rfl, by omega⟩
section MR2
variable {d L s : Nat} {xs : Nat → Int32} {J : Nat → Int64} {F : Nat → Nat → Int32} {K : mm_K} {h : mm_H}
theorem m_text {r n : Int32} (hk : K (some (.int (S_text F r n).1)) (hH L xs J s (S_text F r n).2)) : mm_call mm_Ex (d + 2) k_X6_text [.ref 75, .int r, .int n] (hH L xs J s F) K := by
  unfold S_text at hk
  have B : ¬ ((0 ≤ r ∧ r ≤ 3) ∧ n ≤ 80) → mm_Ex (d + 2) k_X6_text 6 (0, 0) [.ref 75, .int r, .int n, .null] [] (hH L xs J s F) K := by
    intro c
    rw [if_neg c] at hk
    exact mm_run 5 hk
  refine mm_run 50 (s_isText (And.intro (fun c => B (fun q => b2i_0.mp c q.1)) (fun c => And.intro (fun c2 => ?_) (fun c2 => B (fun q => c2 q.2)))))
  rw [if_pos ⟨not_not_b c, c2⟩] at hk
  refine And.intro (fun c3 => ⟨vpT c, ?_⟩) (fun c3 => ?_)
  · rw [if_pos c3] at hk
    obtain ⟨j, hj, rfl⟩ := isText_of c
    have ej : (nI j).toNatClampNeg = j := tn_nI (by omega)
    rw [ej] at hk
    refine lp (n := 80) (P := fun i => ∀ x h, x = nI i → h = hH L xs J s (upF (up2 F 78 j n) 79 (fil (F 79) (80 * j) i 32)) → mm_Ex (d + 2) k_X6_text 21 (0, 0) [.ref 75, .int (nI j), .int n, .int x] [] h K) ?_ ?_ 0 _ rfl ?_
    · intro x h hx hh
      subst hx hh
      exact mm_run 50 (And.intro (fun _ => hk) (fun c => absurd (show (80 : Int32) ≤ nI 80 by decide) c))
    · intro i hi ih x h hx hh
      subst hx hh
      have e : (80 : Int32) * nI j + nI i = nI (80 * j + i) := ix (c := 80)
      have e2 : ((80 : Int32) * nI j + nI i).toNatClampNeg = 80 * j + i := by rw [e]; exact tn_nI (by omega)
      refine mm_run 50 (And.intro (fun c => absurd c (nleI (b := 80) hi (by decide))) (fun c => ⟨by rw [e]; exact vp_in_nI (by omega) (by decide), ?_⟩))
      refine ih _ _ (nI_1 i) ((hp1 rfl).trans (hHx fun a => ?_))
      rw [upF_same]
      show upF _ 79 (upd (fil (F 79) (80 * j) i 32) (((80 : Int32) * nI j + nI i).toNatClampNeg) 32) a = _
      rw [e2, fil_s]
    · rw [fil_0]
      refine (hp1 rfl).trans (hHx fun a => ?_)
      show up2 F 78 ((nI j).toNatClampNeg) n a = _
      rw [ej]
      exact congrFun (upF_id (F := up2 F 78 j n) (k := 79)).symm a
  · rw [if_neg c3] at hk
    exact s_finds (w := 5) (by decide) hk
theorem m_put (hG : G_sz F) {r i v : Int32} (hk : K (some (.int (S_put F r i v).1)) (hH L xs J s (S_put F r i v).2)) : mm_call mm_Ex (d + 2) k_X6_put [.ref 75, .int r, .int i, .int v] (hH L xs J s F) K := by
  unfold S_put at hk
  refine mm_run 60 (s_isText (And.intro (fun c => ⟨vpT c, And.intro (fun c3 => ⟨vpT c, s_in (And.intro (fun c4 => ?_) (fun c4 => ?_))⟩) (fun c3 => ?_)⟩) (fun c => ?_)))
  · obtain ⟨j, p, z, e1, e2, e3, e4, e5, e6, e7, hv⟩ := vpPt hG c c3 c4
    rw [if_pos (not_not_b c), if_pos c3, if_pos (not_not_b c4)] at hk
    refine ⟨hv, hv, ?_⟩
    exact kh (hp1 rfl) hk
  · rw [if_pos (not_not_b c), if_pos c3, if_neg (b2i_0.mp c4)] at hk
    exact s_finds (w := 2) (by decide) hk
  · rw [if_pos (not_not_b c), if_neg c3] at hk
    exact s_finds (w := 1) (by decide) hk
  · rw [if_neg (b2i_0.mp c)] at hk
    exact hk
theorem m_mean (hG : G_sz F) {r : Int32} (hk : K (some (.int (S_mean F r).1)) (hH L xs J s (S_mean F r).2)) : mm_call mm_Ex (d + 2) k_X6_mean [.ref 75, .int r] (hH L xs J s F) K := by
  unfold S_mean at hk
  refine mm_run 60 (s_isRow (And.intro (fun c => ⟨vpR c, And.intro (fun c3 => ⟨vpR c, And.intro (fun c4 => ?_) (fun c4 => ?_)⟩) (fun c3 => ?_)⟩) (fun c => ?_)))
  · rw [if_pos (not_not_b c), if_pos c3, if_neg c4] at hk
    have c9 := c
    obtain ⟨j, hj, rfl⟩ := isRow_of c
    have ej : (nI j).toNatClampNeg = j := tn_nI (by omega)
    have ej2 : (nI j).toNatClampNeg = j := ej
    rw [ej] at hk
    rw [ej2] at c3 c4
    obtain ⟨z, hz, ez⟩ := sz_pos (hG.1 j hj) (by decide) c3
    have ez2 : (F 76 j).toNatClampNeg = z := by rw [ez]; exact tn_nI (by omega)
    rw [ez2] at hk
    refine lp (n := z) (P := fun i => ∀ x a, x = nI i → a = sumL (fun k => F 77 (40 * j + k)) i → mm_Ex (d + 2) k_X6_mean 27 (0, 0) [.ref 75, .int (nI j), .long a, .null, .int x] [] (hH L xs J s F) K) ?_ ?_ 0 0 rfl rfl
    · intro x a hx ha
      subst hx ha
      refine mm_run 60 ⟨vpR c9, And.intro (fun _ => ⟨vpR c9, ?_⟩) (fun c => ?_)⟩
      · refine And.intro (fun q => c4 ?_) (s_tells ?_)
        · rw [ej2, ez, nI_l (by omega)] at q
          rw [ez, (lN_eq (a := z) (b := 0) (by omega) (by decide)).mp q]
          rfl
        · rw [ej2]
          exact hk
      · rw [ej2, ez] at c
        exact absurd ((nI_leI (by omega) (by omega)).mpr (Nat.le_refl z)) c
    · intro i hi ih x a hx ha
      subst hx ha
      have e : (40 : Int32) * nI j + nI i = nI (40 * j + i) := ix (c := 40)
      have e2 : ((40 : Int32) * nI j + nI i).toNatClampNeg = 40 * j + i := by rw [e]; exact tn_nI (by omega)
      refine mm_run 60 ⟨vpR c9, And.intro (fun c => ?_) (fun c => ⟨by rw [e]; exact vp_in_nI (by omega) (by decide), ih _ _ (nI_1 i) ?_⟩)⟩
      · rw [ej2, ez] at c
        exact absurd c (nleI hi (by omega))
      · rw [e2]
        rfl
  · rw [if_pos (not_not_b c), if_pos c3, if_pos c4] at hk
    exact s_finds (w := 4) (by decide) hk
  · rw [if_pos (not_not_b c), if_neg c3] at hk
    exact s_finds (w := 1) (by decide) hk
  · rw [if_neg (b2i_0.mp c)] at hk
    exact hk
theorem s_isPart {r i n : Int32} (hr : vp_in r 6) (hk : K (some (.int (b2i (0 ≤ i ∧ i ≤ F 76 (r.toNatClampNeg) ∧ n ≤ F 76 (r.toNatClampNeg) - i)))) (hH L xs J s F)) : mm_call mm_Ex d k_X6_isPart [.ref 75, .int r, .int i, .int n] (hH L xs J s F) K := by
  have JJ : ∀ x, x = b2i (0 ≤ i ∧ i ≤ F 76 (r.toNatClampNeg) ∧ n ≤ F 76 (r.toNatClampNeg) - i) → mm_Ex d k_X6_isPart 19 (0, 0) [.ref 75, .int r, .int i, .int n] [.int x] (hH L xs J s F) K := fun x e => by
    refine mm_run 5 ⟨?_, ?_⟩
    · rw [e]; exact b2i_01
    · rw [e]; exact hk
  have J0 : ¬ (0 ≤ i ∧ i ≤ F 76 (r.toNatClampNeg) ∧ n ≤ F 76 (r.toNatClampNeg) - i) → mm_Ex d k_X6_isPart 18 (0, 0) [.ref 75, .int r, .int i, .int n] [] (hH L xs J s F) K := fun c => mm_run 5 (JJ 0 (b2i_f c).symm)
  refine mm_run 60 (And.intro (fun c => J0 fun q => Int32.not_le.mpr c q.1) (fun c => ⟨hr, And.intro (fun c2 => J0 fun q => Int32.not_le.mpr c2 q.2.1) (fun c2 => ⟨hr, And.intro (fun c3 => J0 fun q => Int32.not_le.mpr c3 q.2.2) (fun c3 => JJ 1 (b2i_t ⟨Int32.not_lt.mp c, Int32.not_lt.mp c2, Int32.not_lt.mp c3⟩).symm)⟩)⟩))
theorem m_copy (hG : G_sz F) {r i to j n : Int32} (hk : ∀ F', CE F' (S_copy F r i to j n).2 → (∀ k, k < 75 → F' k = F k) → K (some (.int (S_copy F r i to j n).1)) (hH L xs J s F')) : mm_call mm_Ex (d + 2) k_X6_copy [.ref 75, .int r, .int i, .int to, .int j, .int n] (hH L xs J s F) K := by
  unfold S_copy at hk
  have B6 : ¬ ((0 ≤ r ∧ r ≤ 5) ∧ (0 ≤ to ∧ to ≤ 5)) → mm_Ex (d + 2) k_X6_copy 6 (0, 0) [.ref 75, .int r, .int i, .int to, .int j, .int n, .null] [] (hH L xs J s F) K := by
    intro c
    rw [if_neg c] at hk
    exact mm_run 5 (hk F CE.rf (fun _ _ => rfl))
  refine mm_run 60 (s_isRow (And.intro (fun c => B6 (fun q => b2i_0.mp c q.1)) (fun c => s_isRow (And.intro (fun c2 => ?_) (fun c2 => B6 (fun q => b2i_0.mp c2 q.2))))))
  rw [if_pos ⟨not_not_b c, not_not_b c2⟩] at hk
  refine And.intro (fun c3 => ⟨vpR c, ?_⟩) (fun c3 => ?_)
  · rw [if_pos c3] at hk
    have B24 : ¬ (0 ≤ F 76 (r.toNatClampNeg) ∧ 0 ≤ F 76 (to.toNatClampNeg)) → mm_Ex (d + 2) k_X6_copy 24 (0, 0) [.ref 75, .int r, .int i, .int to, .int j, .int n, .null] [] (hH L xs J s F) K := by
      intro c
      rw [if_neg c] at hk
      exact mm_run 5 (s_finds (w := 1) (by decide) (hk _ CE.rf (fun k hk => by simp only [S_fi, up2, upF]; rw [if_neg (by omega), if_neg (by omega)])))
    refine And.intro (fun c4 => B24 (fun q => Int32.not_le.mpr c4 q.1)) (fun c4 => ⟨vpR c2, And.intro (fun c5 => ?_) (fun c5 => B24 (fun q => c5 q.2))⟩)
    have c4 := Int32.not_lt.mp c4
    rw [if_pos ⟨c4, c5⟩] at hk
    have B40 : ¬ ((0 ≤ i ∧ i ≤ F 76 (r.toNatClampNeg) ∧ n ≤ F 76 (r.toNatClampNeg) - i) ∧ (0 ≤ j ∧ j ≤ F 76 (to.toNatClampNeg) ∧ n ≤ F 76 (to.toNatClampNeg) - j)) → mm_Ex (d + 2) k_X6_copy 40 (0, 0) [.ref 75, .int r, .int i, .int to, .int j, .int n, .null] [] (hH L xs J s F) K := by
      intro c
      rw [if_neg c] at hk
      exact mm_run 5 (s_finds (w := 2) (by decide) (hk _ CE.rf (fun k hk => by simp only [S_fi, up2, upF]; rw [if_neg (by omega), if_neg (by omega)])))
    refine s_isPart (vpR c) (And.intro (fun c6 => B40 (fun q => b2i_0.mp c6 q.1)) (fun c6 => s_isPart (vpR c2) (And.intro (fun c7 => ?_) (fun c7 => B40 (fun q => b2i_0.mp c7 q.2)))))
    have p6 := not_not_b c6
    have p7 := not_not_b c7
    rw [if_pos ⟨p6, p7⟩] at hk
    obtain ⟨a, ha, rfl⟩ := isRow_of c
    obtain ⟨b, hb, rfl⟩ := isRow_of c2
    have ea : (nI a).toNatClampNeg = a := tn_nI (by omega)
    have eb : (nI b).toNatClampNeg = b := tn_nI (by omega)
    rw [ea] at c4 p6
    rw [eb] at c5 p7
    obtain ⟨z, hz, ez⟩ := sz_pos (hG.1 a ha) (by decide) c4
    obtain ⟨z2, hz2, ez2⟩ := sz_pos (hG.1 b hb) (by decide) c5
    obtain ⟨p, q, rfl, rfl, h1⟩ := part_of ez hz c3 p6
    obtain ⟨p2, q2, rfl, hq2, h2⟩ := part_of ez2 hz2 c3 p7
    have hqq : q = q2 := (nI_eq (by omega) (by omega)).mp hq2
    subst hqq
    rw [ea, eb, tn_nI (by omega), tn_nI (by omega), tn_nI (by omega)] at hk
    refine lp (n := q) (P := fun i => ∀ x h, x = nI i → h = hH L xs J s (upF F 80 (fun y => if y < i then F 77 (40 * a + p + y) else F 80 y)) → mm_Ex (d + 2) k_X6_copy 46 (0, 0) [.ref 75, .int (nI a), .int (nI p), .int (nI b), .int (nI p2), .int (nI q), .int x] [] h K) ?_ ?_ 0 _ rfl ?_
    · intro x h hx hh
      subst hx hh
      refine mm_run 60 (And.intro (fun _ => ?_) (fun c => absurd ((nI_leI (by omega) (by omega)).mpr (Nat.le_refl q)) c))
      refine lp (n := q) (P := fun i => ∀ x h, x = nI i → h = hH L xs J s (upF (upF F 80 (fun y => if y < q then F 77 (40 * a + p + y) else F 80 y)) 77 (va_cpy (F 77) (F 77) (40 * a + p) (40 * b + p2) i)) → mm_Ex (d + 2) k_X6_copy 67 (0, 0) [.ref 75, .int (nI a), .int (nI p), .int (nI b), .int (nI p2), .int (nI q), .int x] [] h K) ?_ ?_ 0 _ rfl ?_
      · intro x h hx hh
        subst hx hh
        refine mm_run 60 (And.intro (fun _ => hk _ ⟨fun k k1 k2 k3 k4 k5 => ?_, fun k k1 k2 k3 k4 k5 => ?_⟩ (fun k h0 => ?_)) (fun c => absurd ((nI_leI (by omega) (by omega)).mpr (Nat.le_refl q)) c))
        · simp only [upF, if_neg k2]
        · simp only [upF]
          rfl
        · simp only [upF]
          rw [if_neg (by omega), if_neg (by omega)]
      · intro i hi ih x h hx hh
        subst hx hh
        have e : (40 : Int32) * nI b + nI p2 + nI i = nI (40 * b + p2 + i) := by rw [show (40 : Int32) * nI b + nI p2 = nI (40 * b + p2) from ix (c := 40), nI_add]
        have e2 : ((40 : Int32) * nI b + nI p2 + nI i).toNatClampNeg = 40 * b + p2 + i := by rw [e]; exact tn_nI (by omega)
        have e3 : (nI i).toNatClampNeg = i := tn_nI (by omega)
        refine mm_run 60 (And.intro (fun c => absurd c (nleI hi (by omega))) (fun c => ⟨vp_in_nI (by omega) (by decide), by rw [e]; exact vp_in_nI (by omega) (by decide), ?_⟩))
        refine ih _ _ (nI_1 i) ((hp1 rfl).trans (hHx fun k => ?_))
        rw [upF_same]
        congr 1
        funext y
        show upd (va_cpy (F 77) (F 77) (40 * a + p) (40 * b + p2) i) _ (if (nI i).toNatClampNeg < q then F 77 (40 * a + p + (nI i).toNatClampNeg) else F 80 (nI i).toNatClampNeg) y = _
        rw [e2, e3, if_pos hi]
        simp only [upd, va_cpy]
        by_cases hy : y = 40 * b + p2 + i
        · subst hy
          rw [if_pos rfl, if_pos (by omega)]
          congr 1
          omega
        · rw [if_neg hy]
          by_cases h3 : 40 * b + p2 ≤ y ∧ y < 40 * b + p2 + i
          · rw [if_pos h3, if_pos (by omega)]
          · rw [if_neg h3, if_neg (by omega)]
      · refine hHx fun k => ?_
        have e0 : va_cpy (F 77) (F 77) (40 * a + p) (40 * b + p2) 0 = F 77 := by
          funext y
          simp only [va_cpy]
          rw [if_neg (by omega)]
        rw [e0]
        exact congrFun (upF_id (F := upF F 80 (fun y => if y < q then F 77 (40 * a + p + y) else F 80 y)) (k := 77)).symm k
    · intro i hi ih x h hx hh
      subst hx hh
      have e : (40 : Int32) * nI a + nI p + nI i = nI (40 * a + p + i) := by rw [show (40 : Int32) * nI a + nI p = nI (40 * a + p) from ix (c := 40), nI_add]
      have e2 : ((40 : Int32) * nI a + nI p + nI i).toNatClampNeg = 40 * a + p + i := by rw [e]; exact tn_nI (by omega)
      have e3 : (nI i).toNatClampNeg = i := tn_nI (by omega)
      refine mm_run 60 (And.intro (fun c => absurd c (nleI hi (by omega))) (fun c => ⟨by rw [e]; exact vp_in_nI (by omega) (by decide), vp_in_nI (by omega) (by decide), ?_⟩))
      refine ih _ _ (nI_1 i) ((hp1 rfl).trans (hHx fun k => ?_))
      rw [upF_same]
      congr 1
      funext y
      show upd (fun y => if y < i then F 77 (40 * a + p + y) else F 80 y) (nI i).toNatClampNeg (F 77 ((40 : Int32) * nI a + nI p + nI i).toNatClampNeg) y = _
      rw [e2, e3]
      simp only [upd]
      by_cases hy : y = i
      · subst hy
        rw [if_pos rfl, if_pos (by omega)]
      · rw [if_neg hy]
        by_cases h3 : y < i
        · rw [if_pos h3, if_pos (by omega)]
        · rw [if_neg h3, if_neg (by omega)]
    · refine hHx fun k => ?_
      simp only [upF]
      split
      · rename_i e9
        subst e9
        funext y
        rw [if_neg (by omega)]
      · rfl
  · rw [if_neg c3] at hk
    exact s_finds (w := 5) (by decide) (hk _ CE.rf (fun k hk => by simp only [S_fi, up2, upF]; rw [if_neg (by omega), if_neg (by omega)]))
end MR2
end
section
/-! the reference: its court -/
def mq (F : Nat → Nat → Int32) : Rq
  | 0 => F 82
  | 1 => F 83
  | 2 => F 84
  | 3 => F 85
  | 4 => F 86
  | 5 => F 87
  | _ => fun _ => 0
/-- the court does not depend on other cells -/
theorem mq_c {F F' : Nat → Nat → Int32} (h : ∀ k, 82 ≤ k → k ≤ 87 → F k = F' k) : mq F = mq F' := by
  funext w
  rcases w with _ | _ | _ | _ | _ | _ | w
  · exact h 82 (by decide) (by decide)
  · exact h 83 (by decide) (by decide)
  · exact h 84 (by decide) (by decide)
  · exact h 85 (by decide) (by decide)
  · exact h 86 (by decide) (by decide)
  · exact h 87 (by decide) (by decide)
  · rfl
theorem mq_up {F : Nat → Nat → Int32} {k : Nat} {g : Nat → Int32} (h : k < 82 ∨ 87 < k) : mq (upF F k g) = mq F := mq_c fun a h1 h2 => by
  simp only [upF]
  rw [if_neg (by omega)]
def Cw (n : Nat) (q : Rq) : Prop := n ≤ 9 ∧ ∀ i, i < n → (∃ k, k ≤ 5 ∧ q 0 i = nI k) ∧ (∃ d, d ≤ 9 ∧ q 1 i = nI d) ∧ (q 2 i = 0 ∨ q 2 i = 1) ∧ ((q 3 i = -9 ∧ q 4 i = 0) ∨ ∃ j, j < i ∧ q 3 i = nI j ∧ (q 4 i = 1 ∨ q 4 i = -1) ∧ q 1 j < q 1 i) ∧ ∃ m, m < 32 ∧ q 5 i = nI m
theorem b2i_c {a b : Prop} [Decidable a] [Decidable b] (h : a ↔ b) : b2i a = b2i b := by
  unfold b2i
  simp only [h]
theorem nle0 {n : Nat} (h : n < 2 ^ 31) : 0 ≤ nI n := nI_pos' h
/-- a ruling's number -/
theorem isRu_of {i : Int32} {n : Nat} (hn : n ≤ 9) (c : ¬ b2i (0 ≤ i ∧ i ≤ nI n - 1) = 0) : ∃ j, j < n ∧ i = nI j := pl_of (by omega) (not_not_b c)
def citeN (n : Nat) (q : Rq) (i way : Int32) : Nat := fa_cnt (fun j => decide (q 3 j = i) && (decide (way = 0) || decide (q 4 j = way))) n
def toldV (n : Nat) (q : Rq) (i what : Int32) : Int32 := if what = 0 then q 0 i.toNatClampNeg else if what = 1 then q 1 i.toNatClampNeg else if what = 2 then q 2 i.toNatClampNeg else if what = 3 then q 3 i.toNatClampNeg else if what = 4 then q 4 i.toNatClampNeg else if what = 5 then q 5 i.toNatClampNeg else nI (citeN n q i 0)
def isOfB (its kind : Int32) : Bool := decide (its = kind) || ((decide (kind = 1) && decide (its = 4)) || (decide (kind = 2) && decide (its = 5)))
def depN (q : Rq) : Nat → Int32 → Nat
  | 0, _ => 0
  | f + 1, c => if c = -9 then 0 else depN q f (q 3 c.toNatClampNeg) + 1
def dayN (n : Nat) (q : Rq) (i : Nat) : Nat := fa_cnt (fun j => !decide (j = i) && decide (q 1 j = q 1 i)) n
section MK
variable {d L s : Nat} {xs : Nat → Int32} {J : Nat → Int64} {F : Nat → Nat → Int32} {K : mm_K} {h : mm_H} {n : Nat}
theorem s_has {x y : Int32} (hk : K (some (.int (b2i ((x >>> (y &&& 31)) &&& 1 = 1)))) h) : mm_call mm_Ex d k_X6_has [.int x, .int y] h K := by
  have JJ : ∀ v, v = b2i ((x >>> (y &&& 31)) &&& 1 = 1) → mm_Ex d k_X6_has 10 (0, 0) [.int x, .int y] [.int v] h K := fun v e => by
    refine mm_run 5 ⟨?_, ?_⟩
    · rw [e]; exact b2i_01
    · rw [e]; exact hk
  exact mm_run 50 (And.intro (fun c => JJ 0 (b2i_f c).symm) (fun c => JJ 1 (b2i_t c).symm))
theorem s_hasN {x k : Nat} (hk31 : k < 31) (hk : K (some (.int (b2i (x.testBit k = true)))) h) : mm_call mm_Ex d k_X6_has [.int (nI x), .int (nI k)] h K := by
  refine s_has ?_
  rw [b2i_c (hasI hk31)]
  exact hk
theorem s_isRuling {i : Int32} (hk : K (some (.int (b2i (0 ≤ i ∧ i ≤ F 75 10 - 1)))) (hH L xs J s F)) : mm_call mm_Ex (d + 1) k_X6_isRuling [.ref 75, .int i] (hH L xs J s F) K :=
  mm_run 50 (s_in ⟨b2i_01, hk⟩)
theorem s_isSet {i : Int32} (hk : K (some (.int (b2i (0 ≤ i ∧ i ≤ (1 : Int32) <<< (F 75 10 &&& 31) - 1)))) (hH L xs J s F)) : mm_call mm_Ex (d + 1) k_X6_isSet [.ref 75, .int i] (hH L xs J s F) K :=
  mm_run 50 (s_in ⟨b2i_01, hk⟩)
theorem s_isOf {a b : Int32} (hk : K (some (.int (b2i (isOfB a b = true)))) h) : mm_call mm_Ex d k_X6_isOf [.int a, .int b] h K := by
  have JJ : ∀ v, v = b2i (isOfB a b = true) → mm_Ex d k_X6_isOf 18 (0, 0) [.int a, .int b] [.int v] h K := fun v e => by
    refine mm_run 5 ⟨?_, ?_⟩
    · rw [e]; exact b2i_01
    · rw [e]; exact hk
  have J1 : isOfB a b = true → mm_Ex d k_X6_isOf 15 (0, 0) [.int a, .int b] [] h K := fun c => mm_run 5 (JJ 1 (b2i_t c).symm)
  have J0 : ¬ isOfB a b = true → mm_Ex d k_X6_isOf 17 (0, 0) [.int a, .int b] [] h K := fun c => mm_run 5 (JJ 0 (b2i_f c).symm)
  have J9 : ¬ a = b → ¬ (b = 1 ∧ a = 4) → mm_Ex d k_X6_isOf 9 (0, 0) [.int a, .int b] [] h K := fun c1 c2 => by
    refine mm_run 50 (And.intro (fun c => J0 ?_) (fun c => And.intro (fun c3 => J0 ?_) (fun c3 => J1 ?_)))
    · simp [isOfB, c1, c]
      exact fun x y => c2 ⟨x, y⟩
    · simp [isOfB, c1, c3]
      exact fun x y => c2 ⟨x, y⟩
    · simp [isOfB, c, c3]
  refine mm_run 50 (And.intro (fun c => J1 ?_) (fun c => And.intro (fun c2 => J9 c (fun z => c2 z.1)) (fun c2 => And.intro (fun c3 => J1 ?_) (fun c3 => J9 c (fun z => c3 z.2)))))
  · simp [isOfB, c]
  · simp [isOfB, c2, c3]
theorem s_citing (hn : F 75 10 = nI n) (h9 : n ≤ 9) {i way : Int32} (hk : K (some (.int (nI (citeN n (mq F) i way)))) (hH L xs J s F)) : mm_call mm_Ex d k_X6_citing [.ref 75, .int i, .int way] (hH L xs J s F) K := by
  refine mm_run 50 (lp (n := n) (P := fun j => ∀ x a, x = nI j → a = nI (citeN j (mq F) i way) → mm_Ex d k_X6_citing 4 (0, 0) [.ref 75, .int i, .int way, .int a, .int x] [] (hH L xs J s F) K) ?_ ?_ 0 0 rfl rfl)
  · intro x a hx ha
    subst hx ha
    refine mm_run 50 (And.intro (fun _ => hk) (fun c => ?_))
    rw [hn] at c
    exact absurd ((nI_leI (by omega) (by omega)).mpr (Nat.le_refl n)) c
  · intro j hj ih x a hx ha
    subst hx ha
    have ej : (nI j).toNatClampNeg = j := tn_nI (by omega)
    have JJ : ∀ v, v = b2i ((decide (mq F 3 j = i) && (decide (way = 0) || decide (mq F 4 j = way))) = true) → mm_Ex d k_X6_citing 26 (0, 0) [.ref 75, .int i, .int way, .int (nI (citeN j (mq F) i way)), .int (nI j)] [.int v, .int (nI (citeN j (mq F) i way))] (hH L xs J s F) K := fun v e => by
      subst e
      refine mm_run 50 (ih _ _ (nI_1 j) ?_)
      unfold b2i citeN
      rw [fa_cnt]
      split
      · exact nI_1 _
      · exact Int32.add_zero _
    have J1 : (decide (mq F 3 j = i) && (decide (way = 0) || decide (mq F 4 j = way))) = true → mm_Ex d k_X6_citing 23 (0, 0) [.ref 75, .int i, .int way, .int (nI (citeN j (mq F) i way)), .int (nI j)] [.int (nI (citeN j (mq F) i way))] (hH L xs J s F) K := fun c => mm_run 5 (JJ 1 (b2i_t c).symm)
    have J0 : ¬ (decide (mq F 3 j = i) && (decide (way = 0) || decide (mq F 4 j = way))) = true → mm_Ex d k_X6_citing 25 (0, 0) [.ref 75, .int i, .int way, .int (nI (citeN j (mq F) i way)), .int (nI j)] [.int (nI (citeN j (mq F) i way))] (hH L xs J s F) K := fun c => mm_run 5 (JJ 0 (b2i_f c).symm)
    have hv : vp_in (nI j) 9 := vp_in_nI (by omega) (by decide)
    refine mm_run 50 (And.intro (fun c => ?_) (fun c => ⟨hv, And.intro (fun c1 => J0 ?_) (fun c1 => And.intro (fun c2 => J1 ?_) (fun c2 => ⟨hv, And.intro (fun c3 => J0 ?_) (fun c3 => J1 ?_)⟩))⟩))
    · rw [hn] at c
      exact absurd c (nleI hj (by omega))
    · rw [ej] at c1
      have c1 : ¬ mq F 3 j = i := c1
      simp [c1]
    · rw [ej] at c1
      have c1 : mq F 3 j = i := c1
      simp [c1, c2]
    · rw [ej] at c1 c3
      have c3 : ¬ mq F 4 j = way := c3
      simp [c2, c3]
    · rw [ej] at c1 c3
      have c1 : mq F 3 j = i := c1
      have c3 : mq F 4 j = way := c3
      simp [c1, c3]
end MK
end
section
/-! the reference: told, ruling, depends, days, reverse, marks -/
def S_ruling (F : Nat → Nat → Int32) (i what : Int32) : Int32 × (Nat → Nat → Int32) :=
  if (0 ≤ i ∧ i ≤ F 75 10 - 1) ∧ (0 ≤ what ∧ what ≤ 6) then (1, S_te F (toldV (F 75 10).toNatClampNeg (mq F) i what)) else (-1, F)
def S_reverse (F : Nat → Nat → Int32) (i v : Int32) : Int32 × (Nat → Nat → Int32) :=
  if (0 ≤ i ∧ i ≤ F 75 10 - 1) ∧ (0 ≤ v ∧ v ≤ 1) then (F 84 i.toNatClampNeg, up2 F 84 i.toNatClampNeg v) else (-1, F)
def S_marks (F : Nat → Nat → Int32) (i v : Int32) : Int32 × (Nat → Nat → Int32) :=
  if (0 ≤ i ∧ i ≤ F 75 10 - 1) ∧ (0 ≤ v ∧ v ≤ 31) then (F 87 i.toNatClampNeg, up2 F 87 i.toNatClampNeg v) else (-1, F)
section MK2
variable {d L s : Nat} {xs : Nat → Int32} {J : Nat → Int64} {F : Nat → Nat → Int32} {K : mm_K} {h : mm_H} {n : Nat}
theorem vpi {i : Int32} (hn : F 75 10 = nI n) (h9 : n ≤ 9) (c : ¬ b2i (0 ≤ i ∧ i ≤ F 75 10 - 1) = 0) : vp_in i 9 := by
  rw [hn] at c
  obtain ⟨j, hj, rfl⟩ := isRu_of h9 c
  exact vp_in_nI (by omega) (by decide)
theorem s_told (hn : F 75 10 = nI n) (h9 : n ≤ 9) {i what : Int32} (hi : vp_in i 9) (hk : K (some (.int (toldV n (mq F) i what))) (hH L xs J s F)) : mm_call mm_Ex (d + 1) k_X6_told [.ref 75, .int i, .int what] (hH L xs J s F) K := by
  unfold toldV at hk
  have E51 : ∀ v, K (some (.int v)) (hH L xs J s F) → mm_Ex (d + 1) k_X6_told 51 (0, 0) [.ref 75, .int i, .int what] [.int v] (hH L xs J s F) K := fun v q => mm_run 5 q
  refine mm_run 60 (And.intro (fun c0 => ?_) (fun c0 => ?_))
  · rw [if_neg c0] at hk
    refine And.intro (fun c1 => ?_) (fun c1 => ?_)
    · rw [if_neg c1] at hk
      refine And.intro (fun c2 => ?_) (fun c2 => ?_)
      · rw [if_neg c2] at hk
        refine And.intro (fun c3 => ?_) (fun c3 => ?_)
        · rw [if_neg c3] at hk
          refine And.intro (fun c4 => ?_) (fun c4 => ?_)
          · rw [if_neg c4] at hk
            refine And.intro (fun c5 => ?_) (fun c5 => ?_)
            · rw [if_neg c5] at hk
              exact s_citing hn h9 (E51 _ hk)
            · rw [if_pos c5] at hk
              exact ⟨hi, E51 _ hk⟩
          · rw [if_pos c4] at hk
            exact ⟨hi, E51 _ hk⟩
        · rw [if_pos c3] at hk
          exact ⟨hi, E51 _ hk⟩
      · rw [if_pos c2] at hk
        exact ⟨hi, E51 _ hk⟩
    · rw [if_pos c1] at hk
      exact ⟨hi, E51 _ hk⟩
  · rw [if_pos c0] at hk
    exact ⟨hi, E51 _ hk⟩
theorem m_ruling (hn : F 75 10 = nI n) (h9 : n ≤ 9) {i what : Int32} (hk : K (some (.int (S_ruling F i what).1)) (hH L xs J s (S_ruling F i what).2)) : mm_call mm_Ex (d + 2) k_X6_ruling [.ref 75, .int i, .int what] (hH L xs J s F) K := by
  unfold S_ruling at hk
  have en : (F 75 10).toNatClampNeg = n := by rw [hn]; exact tn_nI (by omega)
  rw [en] at hk
  have B : ¬ ((0 ≤ i ∧ i ≤ F 75 10 - 1) ∧ (0 ≤ what ∧ what ≤ 6)) → mm_Ex (d + 2) k_X6_ruling 16 (0, 0) [.ref 75, .int i, .int what] [] (hH L xs J s F) K := by
    intro c
    rw [if_neg c] at hk
    exact mm_run 5 (mm_run 5 hk)
  refine mm_run 60 (s_isRuling (And.intro (fun c => B fun q => b2i_0.mp c q.1) (fun c => s_in (And.intro (fun c2 => B fun q => b2i_0.mp c2 q.2) (fun c2 => ?_)))))
  rw [if_pos ⟨not_not_b c, not_not_b c2⟩] at hk
  exact s_told hn h9 (vpi hn h9 c) (s_tells (mm_run 5 hk))
theorem m_reverse (hn : F 75 10 = nI n) (h9 : n ≤ 9) {i v : Int32} (hk : K (some (.int (S_reverse F i v).1)) (hH L xs J s (S_reverse F i v).2)) : mm_call mm_Ex (d + 2) k_X6_reverse [.ref 75, .int i, .int v] (hH L xs J s F) K := by
  unfold S_reverse at hk
  have B : ¬ ((0 ≤ i ∧ i ≤ F 75 10 - 1) ∧ (0 ≤ v ∧ v ≤ 1)) → mm_Ex (d + 2) k_X6_reverse 9 (0, 0) [.ref 75, .int i, .int v, .null] [] (hH L xs J s F) K := by
    intro c
    rw [if_neg c] at hk
    exact mm_run 5 hk
  refine mm_run 60 (s_isRuling (And.intro (fun c => B fun q => b2i_0.mp c q.1) (fun c => s_in (And.intro (fun c2 => ?_) (fun c2 => B fun q => b2i_0.mp c2 q.2)))))
  rw [if_pos ⟨not_not_b c, not_not_b c2⟩] at hk
  exact ⟨vpi hn h9 c, vpi hn h9 c, kh (hp1 rfl) hk⟩
theorem m_marks (hn : F 75 10 = nI n) (h9 : n ≤ 9) {i v : Int32} (hk : K (some (.int (S_marks F i v).1)) (hH L xs J s (S_marks F i v).2)) : mm_call mm_Ex (d + 2) k_X6_marks [.ref 75, .int i, .int v] (hH L xs J s F) K := by
  unfold S_marks at hk
  have B : ¬ ((0 ≤ i ∧ i ≤ F 75 10 - 1) ∧ (0 ≤ v ∧ v ≤ 31)) → mm_Ex (d + 2) k_X6_marks 9 (0, 0) [.ref 75, .int i, .int v, .null] [] (hH L xs J s F) K := by
    intro c
    rw [if_neg c] at hk
    exact mm_run 5 hk
  refine mm_run 60 (s_isRuling (And.intro (fun c => B fun q => b2i_0.mp c q.1) (fun c => s_in (And.intro (fun c2 => ?_) (fun c2 => B fun q => b2i_0.mp c2 q.2)))))
  rw [if_pos ⟨not_not_b c, not_not_b c2⟩] at hk
  exact ⟨vpi hn h9 c, vpi hn h9 c, kh (hp1 rfl) hk⟩
theorem s_depends (hc : Cw n (mq F)) {i : Nat} (hi : i < n) (hk : K (some (.int (nI (depN (mq F) n (mq F 3 i))))) (hH L xs J s F)) : mm_call mm_Ex d k_X6_depends [.ref 75, .int (nI i)] (hH L xs J s F) K := by
  have h9 := hc.1
  have LP : ∀ f c a x, (c = -9 ∨ ∃ j, j < f ∧ j < n ∧ c = nI j) → x = nI a → a + depN (mq F) f c = depN (mq F) n (mq F 3 i) → mm_Ex d k_X6_depends 7 (0, 0) [.ref 75, .int (nI i), .int x, .int c] [] (hH L xs J s F) K := by
    intro f
    induction f with
    | zero =>
      intro c a x hcc hx e
      subst hx
      rcases hcc with rfl | ⟨j, h1, -⟩
      · refine mm_run 60 (And.intro (fun _ => ?_) (fun c => absurd rfl c))
        have e2 : a = depN (mq F) n (mq F 3 i) := e
        show K (some (.int (nI a))) _
        rw [e2]
        exact hk
      · omega
    | succ f ih =>
      intro c a x hcc hx e
      subst hx
      rw [depN] at e
      refine mm_run 60 (And.intro (fun c1 => ?_) (fun c1 => ?_))
      · rw [if_pos c1] at e
        have e2 : a = depN (mq F) n (mq F 3 i) := e
        show K (some (.int (nI a))) _
        rw [e2]
        exact hk
      · rw [if_neg c1] at e
        rcases hcc with hcc | ⟨j, h1, h2, rfl⟩
        · exact absurd hcc c1
        · refine ⟨vp_in_nI (by omega) (by decide), ?_⟩
          have ej : (nI j).toNatClampNeg = j := tn_nI (by omega)
          refine ih _ (a + 1) _ ?_ (nI_1 a) ?_
          · rw [ej]
            obtain ⟨-, -, -, q4, -⟩ := hc.2 j h2
            rcases q4 with ⟨q, -⟩ | ⟨k, k1, k2, -⟩
            · exact Or.inl q
            · exact Or.inr ⟨k, by omega, by omega, k2⟩
          · show a + 1 + depN (mq F) f (mq F 3 (nI j).toNatClampNeg) = _
            omega
  have ei : (nI i).toNatClampNeg = i := tn_nI (by omega)
  refine mm_run 60 ⟨vp_in_nI (by omega) (by decide), ?_⟩
  refine LP n _ 0 0 ?_ rfl ?_
  · rw [ei]
    obtain ⟨-, -, -, q4, -⟩ := hc.2 i hi
    rcases q4 with ⟨q, -⟩ | ⟨k, k1, k2, -⟩
    · exact Or.inl q
    · exact Or.inr ⟨k, by omega, by omega, k2⟩
  · rw [ei]
    exact Nat.zero_add _
theorem s_ofItsDay (hn : F 75 10 = nI n) (h9 : n ≤ 9) {i : Nat} (hi : i < n) (hk : K (some (.int (nI (dayN n (mq F) i)))) (hH L xs J s F)) : mm_call mm_Ex d k_X6_ofItsDay [.ref 75, .int (nI i)] (hH L xs J s F) K := by
  refine mm_run 50 (lp (n := n) (P := fun j => ∀ x a, x = nI j → a = nI (dayN j (mq F) i) → mm_Ex d k_X6_ofItsDay 4 (0, 0) [.ref 75, .int (nI i), .int a, .int x] [] (hH L xs J s F) K) ?_ ?_ 0 0 rfl rfl)
  · intro x a hx ha
    subst hx ha
    refine mm_run 50 (And.intro (fun _ => hk) (fun c => ?_))
    rw [hn] at c
    exact absurd ((nI_leI (by omega) (by omega)).mpr (Nat.le_refl n)) c
  · intro j hj ih x a hx ha
    subst hx ha
    have ej : (nI j).toNatClampNeg = j := tn_nI (by omega)
    have ei : (nI i).toNatClampNeg = i := tn_nI (by omega)
    have JJ : ∀ v, v = b2i ((!decide (j = i) && decide (mq F 1 j = mq F 1 i)) = true) → mm_Ex d k_X6_ofItsDay 24 (0, 0) [.ref 75, .int (nI i), .int (nI (dayN j (mq F) i)), .int (nI j)] [.int v, .int (nI (dayN j (mq F) i))] (hH L xs J s F) K := fun v e => by
      subst e
      refine mm_run 50 (ih _ _ (nI_1 j) ?_)
      unfold b2i dayN
      rw [fa_cnt]
      split
      · exact nI_1 _
      · exact Int32.add_zero _
    have J0 : ¬ (!decide (j = i) && decide (mq F 1 j = mq F 1 i)) = true → mm_Ex d k_X6_ofItsDay 23 (0, 0) [.ref 75, .int (nI i), .int (nI (dayN j (mq F) i)), .int (nI j)] [.int (nI (dayN j (mq F) i))] (hH L xs J s F) K := fun c => mm_run 5 (JJ 0 (b2i_f c).symm)
    have hv : vp_in (nI j) 9 := vp_in_nI (by omega) (by decide)
    have hvi : vp_in (nI i) 9 := vp_in_nI (by omega) (by decide)
    refine mm_run 50 (And.intro (fun c => ?_) (fun c => And.intro (fun c1 => J0 ?_) (fun c1 => ⟨hv, hvi, And.intro (fun c2 => J0 ?_) (fun c2 => JJ 1 (b2i_t ?_).symm)⟩)))
    · rw [hn] at c
      exact absurd c (nleI hj (by omega))
    · have := (nI_eq (a := j) (b := i) (by omega) (by omega)).mp c1
      simp [this]
    · rw [ej, ei] at c2
      have c2 : ¬ mq F 1 j = mq F 1 i := c2
      simp [c2]
    · rw [ej, ei] at c2
      have c2 : mq F 1 j = mq F 1 i := c2
      have : ¬ j = i := fun q => c1 (by rw [q])
      simp [c2, this]
end MK2
end
section
/-! the reference: filed, struck, kept -/
/-- one more ruling -/
def S_adds (F : Nat → Nat → Int32) (n : Nat) (a b c e f g : Int32) : Nat → Nat → Int32 := up2 (up2 (up2 (up2 (up2 (up2 (up2 F 82 n a) 83 n b) 84 n c) 85 n e) 86 n f) 87 n g) 75 10 (nI (n + 1))
def S_file (F : Nat → Nat → Int32) (k dy v c hw : Int32) : Int32 × (Nat → Nat → Int32) :=
  if ((0 ≤ k ∧ k ≤ 5) ∧ (0 ≤ dy ∧ dy ≤ 9) ∧ (0 ≤ v ∧ v ≤ 1)) ∧ (((0 ≤ c ∧ c ≤ F 75 10 - 1) ∧ (hw = 1 ∨ hw = -1) ∧ F 83 c.toNatClampNeg < dy) ∨ (¬ ((0 ≤ c ∧ c ≤ F 75 10 - 1) ∧ (hw = 1 ∨ hw = -1)) ∧ c = -9 ∧ hw = 0)) then (if F 75 10 = 9 then (-2, F) else (F 75 10, S_adds F (F 75 10).toNatClampNeg k dy v c hw 0)) else (-1, F)
def S_strike (F : Nat → Nat → Int32) (m : Int32) : Int32 × (Nat → Nat → Int32) :=
  if 0 ≤ m ∧ m ≤ F 75 10 then (F 75 10 - m, up2 F 75 10 m) else (-1, F)
/-- places of the kept ones: by lot, ruling, field -/
def keepF (F : Nat → Nat → Int32) (k n : Nat) : Nat → Int32 := fun x => if 54 * k ≤ x ∧ x < 54 * k + 6 * n then mq F ((x - 54 * k) % 6) ((x - 54 * k) / 6) else F 89 x
def S_keep (F : Nat → Nat → Int32) (k : Int32) : Int32 × (Nat → Nat → Int32) :=
  if 0 ≤ k ∧ k ≤ 2 then (if F 75 10 = 0 then (-4, F) else (F 75 10, upF (up2 F 88 k.toNatClampNeg (F 75 10)) 89 (keepF F k.toNatClampNeg (F 75 10).toNatClampNeg))) else (-1, F)
def onF (F : Nat → Nat → Int32) (k m : Nat) : Nat → Nat → Int32 := upF (upF (upF (upF (upF (upF (up2 F 75 10 (nI m)) 82 (fa_fill (fun i => F 89 (54 * k + 6 * i)) (F 82) m)) 83 (fa_fill (fun i => F 89 (54 * k + 6 * i + 1)) (F 83) m)) 84 (fa_fill (fun i => F 89 (54 * k + 6 * i + 2)) (F 84) m)) 85 (fa_fill (fun i => F 89 (54 * k + 6 * i + 3)) (F 85) m)) 86 (fa_fill (fun i => F 89 (54 * k + 6 * i + 4)) (F 86) m)) 87 (fa_fill (fun i => F 89 (54 * k + 6 * i + 5)) (F 87) m)
def S_on (F : Nat → Nat → Int32) (k : Int32) : Int32 × (Nat → Nat → Int32) :=
  if 0 ≤ k ∧ k ≤ 2 then (if 0 ≤ F 88 k.toNatClampNeg then (F 88 k.toNatClampNeg, onF F k.toNatClampNeg (F 88 k.toNatClampNeg).toNatClampNeg) else (-3, S_fi F 1)) else (-1, F)
/-- all are there, nothing more is against them -/
def S_all (F : Nat → Nat → Int32) (n : Nat) : Nat → Nat → Int32 := upF (up2 F 75 19 (nI (2 ^ n - 1))) 90 (fil (F 90) 0 9 0)
section MF
variable {d L s : Nat} {xs : Nat → Int32} {J : Nat → Int64} {F : Nat → Nat → Int32} {K : mm_K} {h : mm_H} {n : Nat}
theorem s_adds (hn : F 75 10 = nI n) (h9 : n < 9) {a b c e f g : Int32} (hk : K none (hH L xs J s (S_adds F n a b c e f g))) : mm_call mm_Ex d k_X6_adds [.ref 75, .int a, .int b, .int c, .int e, .int f, .int g] (hH L xs J s F) K := by
  have hv : vp_in (F 75 10) 9 := by rw [hn]; exact vp_in_nI (by omega) (by decide)
  have en : (F 75 10).toNatClampNeg = n := by rw [hn]; exact tn_nI (by omega)
  refine mm_run 60 ⟨hv, hv, hv, hv, hv, hv, ?_⟩
  refine kh (hp7 (g7 := upd (F 75) 10 (F 75 10 + 1)) rfl rfl rfl rfl rfl rfl rfl) ?_
  refine kh (hHx fun x => ?_) hk
  unfold S_adds up2
  rw [en, hn, nI_1]
  rfl
theorem m_strike (hn : F 75 10 = nI n) (hc : Cw n (mq F)) {m : Int32} (hk : K (some (.int (S_strike F m).1)) (hH L xs J s (S_strike F m).2)) : mm_call mm_Ex (d + 1) k_X6_strike [.ref 75, .int m] (hH L xs J s F) K := by
  have h9 := hc.1
  unfold S_strike at hk
  refine mm_run 60 (s_in (And.intro (fun c => ?_) (fun c => ?_)))
  · have c' := not_not_b c
    rw [if_pos c'] at hk
    have c2 : 0 ≤ m ∧ m ≤ F 75 10 := c'
    rw [hn] at c2
    obtain ⟨k, hkn, rfl⟩ := in_nI (by omega) c2.1 c2.2
    refine lp (n := k) (P := fun i => ∀ x, x = nI i → mm_Ex (d + 1) k_X6_strike 15 (0, 0) [.ref 75, .int (nI k), .int (F 75 10 - nI k), .int x, .null] [] (hH L xs J s F) K ∧ ∀ v, mm_Ex (d + 1) k_X6_strike 15 (0, 0) [.ref 75, .int (nI k), .int (F 75 10 - nI k), .int x, .int v] [] (hH L xs J s F) K) ?_ ?_ 0 rfl |>.1
    · intro x hx
      subst hx
      have key : ∀ w : Value, mm_Ex (d + 1) k_X6_strike 15 (0, 0) [.ref 75, .int (nI k), .int (F 75 10 - nI k), .int (nI k), w] [] (hH L xs J s F) K := fun w =>
        mm_run 60 (And.intro (fun _ => kh (hp1 rfl) hk) (fun c => absurd ((nI_leI (by omega) (by omega)).mpr (Nat.le_refl k)) c))
      exact ⟨key _, fun v => key _⟩
    · intro i hi ih x hx
      subst hx
      have ei : (nI i).toNatClampNeg = i := tn_nI (by omega)
      have hv : vp_in (nI i) 9 := vp_in_nI (by omega) (by decide)
      obtain ⟨-, -, -, q4, -⟩ := hc.2 i (by omega)
      have key : ∀ w : Value, mm_Ex (d + 1) k_X6_strike 15 (0, 0) [.ref 75, .int (nI k), .int (F 75 10 - nI k), .int (nI i), w] [] (hH L xs J s F) K := by
        intro w
        have J51 : mm_Ex (d + 1) k_X6_strike 51 (0, 0) [.ref 75, .int (nI k), .int (F 75 10 - nI k), .int (nI i), .int 0] [.int (F 86 i), .int (nI i), .ref 86] (hH L xs J s F) K := by
          refine mm_run 60 ⟨hv, kx ?_ ((ih _ (nI_1 i)).2 0)⟩
          refine (hp1 rfl).trans (hHx fun a => ?_)
          rw [ei, fa_upd_same rfl]
          exact congrFun upF_id a
        have J39 : mm_Ex (d + 1) k_X6_strike 39 (0, 0) [.ref 75, .int (nI k), .int (F 75 10 - nI k), .int (nI i), .int 0] [.int (F 85 i), .int (nI i), .ref 85] (hH L xs J s F) K := by
          refine mm_run 60 ⟨hv, And.intro (fun _ => ⟨hv, ?_⟩) (fun c => absurd rfl c)⟩
          show mm_Ex _ _ 51 _ _ _ _ _
          refine kx ((hp1 rfl).trans (hHx (F' := F) fun a => ?_)) ?_
          · rw [ei, fa_upd_same rfl]
            exact congrFun upF_id a
          · have e9 : (F 86 (nI i).toNatClampNeg) = F 86 i := by rw [ei]
            show mm_Ex (d + 1) k_X6_strike 51 _ _ [.int (F 86 (nI i).toNatClampNeg), .int (nI i), .ref 86] (hH L xs J s F) K
            rw [e9]
            exact J51
        have J27 : mm_Ex (d + 1) k_X6_strike 27 (0, 0) [.ref 75, .int (nI k), .int (F 75 10 - nI k), .int (nI i), w] [.int 0] (hH L xs J s F) K := by
          cases w <;> (
            refine mm_run 60 (And.intro (fun _ => ⟨hv, ?_⟩) (fun c => absurd rfl c))
            have e9 : (F 85 (nI i).toNatClampNeg) = F 85 i := by rw [ei]
            show mm_Ex (d + 1) k_X6_strike 39 _ _ [.int (F 85 (nI i).toNatClampNeg), .int (nI i), .ref 85] (hH L xs J s F) K
            rw [e9]
            exact J39)
        refine mm_run 60 (And.intro (fun c => absurd c (nleI hi (by omega))) (fun c => ⟨hv, And.intro (fun c2 => J27) (fun c2 => absurd ?_ c2)⟩))
        rw [ei]
        show mq F 3 i < nI k
        rcases q4 with ⟨q, -⟩ | ⟨j, j1, j2, -⟩
        · rw [q]
          exact Int32.lt_of_lt_of_le (show (-9 : Int32) < 0 by decide) (nle0 (by omega))
        · rw [j2]
          exact (nI_ltI (by omega) (by omega)).mpr (by omega)
      exact ⟨key _, fun v => key _⟩
  · rw [if_neg (b2i_0.mp c)] at hk
    exact hk
theorem s_all (hn : F 75 10 = nI n) (h9 : n ≤ 9) (hk : K none (hH L xs J s (S_all F n))) : mm_call mm_Ex d k_X6_all [.ref 75] (hH L xs J s F) K := by
  refine mm_run 60 ?_
  refine lp (n := 9) (P := fun i => ∀ x h, x = nI i → h = hH L xs J s (upF (up2 F 75 19 (nI (2 ^ n - 1))) 90 (fil (F 90) 0 i 0)) → mm_Ex d k_X6_all 10 (0, 0) [.ref 75, .int x] [] h K) ?_ ?_ 0 _ rfl ?_
  · intro x h hx hh
    subst hx hh
    exact mm_run 50 (And.intro (fun _ => hk) (fun c => absurd (show (9 : Int32) ≤ nI 9 by decide) c))
  · intro i hi ih x h hx hh
    subst hx hh
    have e2 : (nI i).toNatClampNeg = i := tn_nI (by omega)
    refine mm_run 50 (And.intro (fun c => absurd c (nleI (b := 9) hi (by decide))) (fun c => ⟨vp_in_nI (by omega) (by decide), ?_⟩))
    refine ih _ _ (nI_1 i) ((hp1 rfl).trans (hHx fun a => ?_))
    rw [upF_same]
    show upF _ 90 (upd (fil (F 90) 0 i 0) (nI i).toNatClampNeg 0) a = _
    rw [e2]
    have := fil_s (f := F 90) (lo := 0) (n := i) (v := 0)
    rw [Nat.zero_add] at this
    rw [this]
  · rw [fil_0]
    refine (hp1 (g := upd (F 75) 19 ((1 : Int32) <<< (F 75 10 &&& 31) - 1)) rfl).trans (hHx fun a => ?_)
    show up2 F 75 19 ((1 : Int32) <<< (F 75 10 &&& 31) - 1) a = _
    rw [hn, all_I h9]
    exact congrFun (upF_id (F := up2 F 75 19 (nI (2 ^ n - 1))) (k := 90)).symm a
end MF
end
section
/-! the reference: file, keep, on -/
section MG
variable {d L s : Nat} {xs : Nat → Int32} {J : Nat → Int64} {F : Nat → Nat → Int32} {K : mm_K} {h : mm_H} {n : Nat}
theorem m_file (hn : F 75 10 = nI n) (h9 : n ≤ 9) {k dy v c hw : Int32} (hk : K (some (.int (S_file F k dy v c hw).1)) (hH L xs J s (S_file F k dy v c hw).2)) : mm_call mm_Ex (d + 2) k_X6_file [.ref 75, .int k, .int dy, .int v, .int c, .int hw] (hH L xs J s F) K := by
  unfold S_file at hk
  have en : (F 75 10).toNatClampNeg = n := by rw [hn]; exact tn_nI (by omega)
  obtain ⟨Wl, hW⟩ : ∃ Wl : Prop, ((0 ≤ k ∧ k ≤ 5) ∧ (0 ≤ dy ∧ dy ≤ 9) ∧ (0 ≤ v ∧ v ≤ 1)) = Wl := ⟨_, rfl⟩
  obtain ⟨Cl, hQ⟩ : ∃ Cl : Prop, ((0 ≤ c ∧ c ≤ F 75 10 - 1) ∧ (hw = 1 ∨ hw = -1)) = Cl := ⟨_, rfl⟩
  have hB : ∀ w1 w2 : Value, ¬ (Wl ∧ ((Cl ∧ F 83 c.toNatClampNeg < dy) ∨ (¬ Cl ∧ c = -9 ∧ hw = 0))) → mm_Ex (d + 2) k_X6_file 50 (0, 0) [.ref 75, .int k, .int dy, .int v, .int c, .int hw, w1, w2] [] (hH L xs J s F) K := by
    intro w1 w2 q
    rw [if_neg (fun z => q ⟨by rw [← hW]; exact z.1, by
      rw [← hQ]
      rcases z.2 with ⟨a, b, e⟩ | ⟨a, b, e⟩
      · exact Or.inl ⟨⟨a, b⟩, e⟩
      · exact Or.inr ⟨a, b, e⟩⟩)] at hk
    exact mm_run 5 hk
  have hG : ∀ w1 w2 : Value, Wl → ((Cl ∧ F 83 c.toNatClampNeg < dy) ∨ (¬ Cl ∧ c = -9 ∧ hw = 0)) → mm_Ex (d + 2) k_X6_file 52 (0, 0) [.ref 75, .int k, .int dy, .int v, .int c, .int hw, w1, w2] [] (hH L xs J s F) K := by
    intro w1 w2 q1 q2
    rw [if_pos ⟨by rw [hW]; exact q1, by
      rw [← hQ] at q2
      rcases q2 with ⟨⟨a, b⟩, e⟩ | ⟨a, b, e⟩
      · exact Or.inl ⟨a, b, e⟩
      · exact Or.inr ⟨a, b, e⟩⟩] at hk
    refine mm_run 60 (And.intro (fun z => ?_) (fun z => ?_))
    · rw [if_neg z, en] at hk
      have h8 : n < 9 := by
        rcases Nat.lt_or_ge n 9 with q | q
        · exact q
        · have : n = 9 := by omega
          subst this
          exact absurd hn z
      refine s_adds hn h8 ?_
      have e1 : S_adds F n k dy v c hw 0 75 10 - 1 = F 75 10 := by
        show nI (n + 1) - 1 = _
        rw [nI_pred, hn]
      show K (some (.int (S_adds F n k dy v c hw 0 75 10 - 1))) _
      rw [e1]
      exact hk
    · rw [if_pos z] at hk
      exact hk
  -- at 33: both booleans known
  have h33 : ∀ x y : Int32, (x = 0 ↔ ¬ Wl) → (y = 0 ↔ ¬ Cl) → mm_Ex (d + 2) k_X6_file 32 (0, 0) [.ref 75, .int k, .int dy, .int v, .int c, .int hw, .int x, .null] [.int y] (hH L xs J s F) K := by
    intro x y hx hy
    have h42 : Wl → (Cl ∨ (c = -9 ∧ hw = 0)) → mm_Ex (d + 2) k_X6_file 42 (0, 0) [.ref 75, .int k, .int dy, .int v, .int c, .int hw, .int x, .int y] [] (hH L xs J s F) K := by
      intro q1 q2
      refine mm_run 60 (And.intro (fun z => hG _ _ q1 ?_) (fun z => ?_))
      · have z := hy.mp z
        rcases q2 with q2 | q2
        · exact absurd q2 z
        · exact Or.inr ⟨z, q2⟩
      · have hC : Cl := Classical.not_not.mp (fun w => z (hy.mpr w))
        have hC2 := hC
        rw [← hQ] at hC2
        have c9 : vp_in c 9 := by
          have q := hC2.1
          rw [hn] at q
          obtain ⟨p, hp', rfl⟩ := pl_of (by omega) q
          exact vp_in_nI (by omega) (by decide)
        exact ⟨c9, And.intro (fun w => hG _ _ q1 (Or.inl ⟨hC, w⟩)) (fun w => hB _ _ (fun u => by
          rcases u.2 with u2 | u2
          · exact w u2.2
          · exact u2.1 hC))⟩
    refine mm_run 60 (And.intro (fun z => hB _ _ (fun u => hx.mp z u.1)) (fun z => ?_))
    have q1 : Wl := Classical.not_not.mp (fun w => z (hx.mpr w))
    refine And.intro (fun w => h42 q1 (Or.inl (Classical.not_not.mp (fun u => w (hy.mpr u))))) (fun w => ?_)
    have q2 := hy.mp w
    exact And.intro (fun u => hB _ _ (fun r => by
      rcases r.2 with r2 | r2
      · exact q2 r2.1
      · exact u r2.2.1)) (fun u => And.intro (fun t => hB _ _ (fun r => by
      rcases r.2 with r2 | r2
      · exact q2 r2.1
      · exact t r2.2.2)) (fun t => h42 q1 (Or.inr ⟨u, t⟩)))
  have h18 : ∀ x : Int32, (x = 0 ↔ ¬ Wl) → mm_Ex (d + 2) k_X6_file 18 (0, 0) [.ref 75, .int k, .int dy, .int v, .int c, .int hw, .null, .null] [.int x] (hH L xs J s F) K := by
    intro x hx
    have h31 : ¬ Cl → mm_Ex (d + 2) k_X6_file 31 (0, 0) [.ref 75, .int k, .int dy, .int v, .int c, .int hw, .int x, .null] [] (hH L xs J s F) K := fun q => mm_run 5 (h33 x 0 hx ⟨fun _ => q, fun _ => rfl⟩)
    have h29 : Cl → mm_Ex (d + 2) k_X6_file 29 (0, 0) [.ref 75, .int k, .int dy, .int v, .int c, .int hw, .int x, .null] [] (hH L xs J s F) K := fun q => mm_run 5 (h33 x 1 hx ⟨fun w => absurd w (by decide), fun w => absurd q w⟩)
    rw [← hQ] at h31 h29
    exact mm_run 60 (s_isRuling (And.intro (fun z => h31 (fun w => b2i_0.mp z w.1)) (fun z => And.intro (fun u => h29 ⟨not_not_b z, Or.inl u⟩) (fun u => And.intro (fun t => h31 (fun w => by
      rcases w.2 with w2 | w2
      · exact u w2
      · exact t w2)) (fun t => h29 ⟨not_not_b z, Or.inr t⟩)))))
  have h17 : ¬ Wl → mm_Ex (d + 2) k_X6_file 17 (0, 0) [.ref 75, .int k, .int dy, .int v, .int c, .int hw, .null, .null] [] (hH L xs J s F) K := fun q => mm_run 5 (h18 0 ⟨fun _ => q, fun _ => rfl⟩)
  have hw18 : Wl → mm_Ex (d + 2) k_X6_file 18 (0, 0) [.ref 75, .int k, .int dy, .int v, .int c, .int hw, .null, .null] [.int 1] (hH L xs J s F) K := fun q => h18 1 ⟨fun w => absurd w (by decide), fun w => absurd q w⟩
  rw [← hW] at h17 hw18
  exact mm_run 60 (s_in (And.intro (fun z => h17 (fun w => b2i_0.mp z w.1)) (fun z => s_in (And.intro (fun y => h17 (fun w => b2i_0.mp y w.2.1)) (fun y => s_in (And.intro (fun t => h17 (fun w => b2i_0.mp t w.2.2)) (fun t => hw18 ⟨not_not_b z, not_not_b y, not_not_b t⟩)))))))
theorem isK_of {v : Int32} (c : ¬ b2i (0 ≤ v ∧ v ≤ 2) = 0) : ∃ r, r < 3 ∧ v = nI r := by
  obtain ⟨j, h1, h2⟩ := in_nI (n := 2) (by decide) (not_not_b c).1 (not_not_b c).2
  exact ⟨j, by omega, h2⟩
theorem toldV_mq {i w : Nat} {q : Rq} (hi : i < 9) (hw : w < 6) : toldV n q (nI i) (nI w) = q w i := by
  have ei : (nI i).toNatClampNeg = i := tn_nI (by omega)
  unfold toldV
  rw [ei]
  rcases w with _ | _ | _ | _ | _ | _ | w
  · rfl
  · rfl
  · rfl
  · rfl
  · rfl
  · rfl
  · omega
theorem m_keep (hn : F 75 10 = nI n) (h9 : n ≤ 9) {k : Int32} (hk : K (some (.int (S_keep F k).1)) (hH L xs J s (S_keep F k).2)) : mm_call mm_Ex (d + 2) k_X6_keep [.ref 75, .int k] (hH L xs J s F) K := by
  unfold S_keep at hk
  have en : (F 75 10).toNatClampNeg = n := by rw [hn]; exact tn_nI (by omega)
  refine mm_run 60 (s_in (And.intro (fun c => And.intro (fun c2 => ?_) (fun c2 => ?_)) (fun c => ?_)))
  · rw [if_pos (not_not_b c), if_neg c2, en] at hk
    obtain ⟨j, hj, rfl⟩ := isK_of c
    have ej : (nI j).toNatClampNeg = j := tn_nI (by omega)
    rw [ej] at hk
    refine ⟨vp_in_nI hj (by decide), ?_⟩
    refine lp (n := n) (P := fun i => ∀ x (w : Value) h, x = nI i → h = hH L xs J s (upF (up2 F 88 j (F 75 10)) 89 (keepF F j i)) → mm_Ex (d + 2) k_X6_keep 20 (0, 0) [.ref 75, .int (nI j), .int x, w] [] h K) ?_ ?_ 0 _ _ rfl ?_
    · intro x w h hx hh
      subst hx hh
      refine mm_run 60 (And.intro (fun _ => hk) (fun c => absurd ?_ c))
      show F 75 10 ≤ nI n
      rw [hn]
      exact (nI_leI (by omega) (by omega)).mpr (Nat.le_refl n)
    · intro i hi ih x w h hx hh
      subst hx hh
      refine mm_run 60 (And.intro (fun c => absurd ?_ (nleI hi (by omega))) (fun c => ?_))
      · have c : F 75 10 ≤ nI i := c
        rw [hn] at c
        exact c
      · refine lp (n := 6) (P := fun w => ∀ x h, x = nI w → h = hH L xs J s (upF (up2 F 88 j (F 75 10)) 89 (fun x => if 54 * j ≤ x ∧ x < 54 * j + (6 * i + w) then mq F ((x - 54 * j) % 6) ((x - 54 * j) / 6) else F 89 x)) → mm_Ex (d + 2) k_X6_keep 26 (0, 0) [.ref 75, .int (nI j), .int (nI i), .int x] [] h K) ?_ ?_ 0 _ rfl rfl
        · intro x h hx hh
          subst hx hh
          refine mm_run 60 (And.intro (fun _ => ih _ _ _ (nI_1 i) ?_) (fun c => absurd (show (6 : Int32) ≤ nI 6 by decide) c))
          exact hHx fun a => rfl
        · intro w hw ih2 x h hx hh
          subst hx hh
          have e1 : (54 : Int32) * nI j + 6 * nI i + nI w = nI (54 * j + 6 * i + w) := by
            rw [show (6 : Int32) * nI i = nI (6 * i) from pk_mul 6 i, show (54 : Int32) * nI j + nI (6 * i) = nI (54 * j + 6 * i) from ix (c := 54), nI_add]
          have e2 : ((54 : Int32) * nI j + 6 * nI i + nI w).toNatClampNeg = 54 * j + 6 * i + w := by rw [e1]; exact tn_nI (by omega)
          refine mm_run 60 (And.intro (fun c => absurd c (nleI (b := 6) hw (by decide))) (fun c => s_told (i := nI i) (n := n) (F := upF (up2 F 88 j (F 75 10)) 89 (fun x => if 54 * j ≤ x ∧ x < 54 * j + (6 * i + w) then mq F ((x - 54 * j) % 6) ((x - 54 * j) / 6) else F 89 x)) hn h9 (vp_in_nI (by omega) (by decide)) ⟨by rw [e1]; exact vp_in_nI (by omega) (by decide), ?_⟩))
          refine ih2 _ _ (nI_1 w) ((hp1 rfl).trans (hHx fun a => ?_))
          rw [upF_same]
          congr 1
          funext y
          have e5 : mq (upF (up2 F 88 j (F 75 10)) 89 (fun x => if 54 * j ≤ x ∧ x < 54 * j + (6 * i + w) then mq F ((x - 54 * j) % 6) ((x - 54 * j) / 6) else F 89 x)) = mq F := by rw [mq_up (by decide)]; exact mq_up (by decide)
          rw [e5, e2, toldV_mq (by omega) hw]
          simp only [upd]
          by_cases hy : y = 54 * j + 6 * i + w
          · subst hy
            rw [if_pos rfl, if_pos (by omega)]
            have a1 : (54 * j + 6 * i + w - 54 * j) % 6 = w := by omega
            have a2 : (54 * j + 6 * i + w - 54 * j) / 6 = i := by omega
            rw [a1, a2]
          · rw [if_neg hy]
            show (if 54 * j ≤ y ∧ y < 54 * j + (6 * i + w) then mq F ((y - 54 * j) % 6) ((y - 54 * j) / 6) else F 89 y) = _
            by_cases h3 : 54 * j ≤ y ∧ y < 54 * j + (6 * i + w)
            · rw [if_pos h3, if_pos (by omega)]
            · rw [if_neg h3, if_neg (by omega)]
    · refine (hp1 rfl).trans (hHx fun a => ?_)
      rw [ej]
      have e0 : keepF F j 0 = F 89 := by
        funext y
        unfold keepF
        rw [if_neg (by omega)]
      rw [e0]
      exact congrFun (upF_id (F := up2 F 88 j (F 75 10)) (k := 89)).symm a
  · rw [if_pos (not_not_b c), if_pos c2] at hk
    exact hk
  · rw [if_neg (b2i_0.mp c)] at hk
    exact hk
end MG
end
section
/-! the reference: on, what is due, ways -/
section MH
variable {d L s : Nat} {xs : Nat → Int32} {J : Nat → Int64} {F : Nat → Nat → Int32} {K : mm_K} {h : mm_H} {n : Nat}
theorem m_on (hK : ∀ k, k < 3 → szOk (F 88 k) 9) {k : Int32} (hk : K (some (.int (S_on F k).1)) (hH L xs J s (S_on F k).2)) : mm_call mm_Ex (d + 2) k_X6_on [.ref 75, .int k] (hH L xs J s F) K := by
  unfold S_on at hk
  refine mm_run 60 (s_in (And.intro (fun c => ?_) (fun c => ?_)))
  · obtain ⟨j, hj, rfl⟩ := isK_of c
    have ej : (nI j).toNatClampNeg = j := tn_nI (by omega)
    rw [if_pos (not_not_b c), ej] at hk
    have hv : vp_in (nI j) 3 := vp_in_nI hj (by decide)
    refine ⟨hv, And.intro (fun c2 => ?_) (fun c2 => ?_)⟩
    · rw [ej] at c2
      rw [if_pos c2] at hk
      obtain ⟨m, hm, em⟩ := sz_pos (hK j hj) (by decide) c2
      have em2 : (F 88 j).toNatClampNeg = m := by rw [em]; exact tn_nI (by omega)
      rw [em2] at hk
      refine lp (n := m) (P := fun i => ∀ x (w : Value) h, x = nI i → h = hH L xs J s (onF F j i) → mm_Ex (d + 2) k_X6_on 21 (0, 0) [.ref 75, .int (nI j), .int x, w] [] h K) ?_ ?_ 0 _ _ rfl ?_
      · intro x w h hx hh
        subst hx hh
        refine mm_run 60 ⟨hv, And.intro (fun _ => ?_) (fun c => absurd ?_ c)⟩
        · show K (some (.int (nI m))) _
          rw [← em]
          exact hk
        · show F 88 (nI j).toNatClampNeg ≤ nI m
          rw [ej, em]
          exact (nI_leI (by omega) (by omega)).mpr (Nat.le_refl m)
      · intro i hi ih x w h hx hh
        subst hx hh
        have e1 : (54 : Int32) * nI j + 6 * nI i = nI (54 * j + 6 * i) := by
          rw [show (6 : Int32) * nI i = nI (6 * i) from pk_mul 6 i]
          exact ix (c := 54)
        have vq : ∀ w, w < 6 → vp_in (nI (54 * j + 6 * i + w)) 162 := fun w hw => vp_in_nI (by omega) (by decide)
        have ev : ∀ w, w < 6 → (nI (54 * j + 6 * i + w)).toNatClampNeg = 54 * j + 6 * i + w := fun w hw => tn_nI (by omega)
        have eq0 : (54 : Int32) * nI j + 6 * nI i = nI (54 * j + 6 * i + 0) := e1
        have eq1 : (54 : Int32) * nI j + 6 * nI i + 1 = nI (54 * j + 6 * i + 1) := by rw [e1, nI_1]
        have eq2 : (54 : Int32) * nI j + 6 * nI i + 2 = nI (54 * j + 6 * i + 2) := by rw [e1]; exact nI_add _ 2
        have eq3 : (54 : Int32) * nI j + 6 * nI i + 3 = nI (54 * j + 6 * i + 3) := by rw [e1]; exact nI_add _ 3
        have eq4 : (54 : Int32) * nI j + 6 * nI i + 4 = nI (54 * j + 6 * i + 4) := by rw [e1]; exact nI_add _ 4
        have eq5 : (54 : Int32) * nI j + 6 * nI i + 5 = nI (54 * j + 6 * i + 5) := by rw [e1]; exact nI_add _ 5
        refine mm_run 60 ⟨hv, And.intro (fun c => ?_) (fun c => ⟨by rw [eq0]; exact vq 0 (by decide), by rw [eq1]; exact vq 1 (by decide), by rw [eq2]; exact vq 2 (by decide), by rw [eq3]; exact vq 3 (by decide), by rw [eq4]; exact vq 4 (by decide), by rw [eq5]; exact vq 5 (by decide), s_adds (n := i) rfl (by omega) (ih _ _ _ (nI_1 i) (hHx fun a => ?_))⟩)⟩
        · have c : F 88 (nI j).toNatClampNeg ≤ nI i := c
          rw [ej, em] at c
          exact absurd c (nleI hi (by omega))
        · rw [eq5, eq4, eq3, eq2, eq1, eq0, ev 0 (by decide), ev 1 (by decide), ev 2 (by decide), ev 3 (by decide), ev 4 (by decide), ev 5 (by decide)]
          unfold S_adds onF
          simp only [up2, upF]
          by_cases h75 : a = 75
          · subst h75
            simp
            exact fa_upd_twice (F 75) 10 (nI i) (nI (i + 1))
          by_cases h82 : a = 82
          · subst h82
            simp
            exact fa_fill_succ (fun i => F 89 (54 * j + 6 * i)) (F 82) i
          by_cases h83 : a = 83
          · subst h83
            simp
            exact fa_fill_succ (fun i => F 89 (54 * j + 6 * i + 1)) (F 83) i
          by_cases h84 : a = 84
          · subst h84
            simp
            exact fa_fill_succ (fun i => F 89 (54 * j + 6 * i + 2)) (F 84) i
          by_cases h85 : a = 85
          · subst h85
            simp
            exact fa_fill_succ (fun i => F 89 (54 * j + 6 * i + 3)) (F 85) i
          by_cases h86 : a = 86
          · subst h86
            simp
            exact fa_fill_succ (fun i => F 89 (54 * j + 6 * i + 4)) (F 86) i
          by_cases h87 : a = 87
          · subst h87
            simp
            exact fa_fill_succ (fun i => F 89 (54 * j + 6 * i + 5)) (F 87) i
          simp [h75, h82, h83, h84, h85, h86, h87]
      · refine (hp1 (g := upd (F 75) 10 0) rfl).trans (hHx fun a => ?_)
        unfold onF
        rw [fa_fill_0, fa_fill_0, fa_fill_0, fa_fill_0, fa_fill_0, fa_fill_0]
        simp only [up2, upF]
        by_cases h75 : a = 75
        · subst h75
          rfl
        by_cases h82 : a = 82
        · subst h82
          rfl
        by_cases h83 : a = 83
        · subst h83
          rfl
        by_cases h84 : a = 84
        · subst h84
          rfl
        by_cases h85 : a = 85
        · subst h85
          rfl
        by_cases h86 : a = 86
        · subst h86
          rfl
        by_cases h87 : a = 87
        · subst h87
          rfl
        simp [h75, h82, h83, h84, h85, h86, h87]
    · rw [ej] at c2
      rw [if_neg c2] at hk
      exact s_finds (w := 1) (by decide) hk
  · rw [if_neg (b2i_0.mp c)] at hk
    exact hk
end MH
end
section
/-! the reference: what is due, ways -/
theorem b2i_b (b : Bool) : b2i (b = true) = if b then 1 else 0 := by cases b <;> rfl
theorem nI_b (a : Nat) (p : Nat → Bool) (j : Nat) : nI (a + fa_cnt p j) + b2i (p j = true) = nI (a + fa_cnt p (j + 1)) := by
  rw [fa_cnt, b2i_b]
  cases p j
  · exact Int32.add_zero _
  · show nI (a + fa_cnt p j) + 1 = nI (a + (fa_cnt p j + 1))
    rw [nI_1]
    rfl
theorem b2i_p {c : Prop} [Decidable c] (h : ¬ b2i c = 0) : c := not_not_b h
/-- what the scratch of the reference says: who is there, what more is against whom -/
def G_t (F : Nat → Nat → Int32) (t : Nat) (sk : Nat → Nat) : Prop := F 75 19 = nI t ∧ ∀ i, i < 9 → F 90 i = nI (sk i) ∧ sk i ≤ 9
section MD
variable {d L s : Nat} {xs : Nat → Int32} {J : Nat → Int64} {F : Nat → Nat → Int32} {K : mm_K} {h : mm_H} {n t : Nat} {sk : Nat → Nat}
set_option maxHeartbeats 1000000 in
theorem s_isDue (hn : F 75 10 = nI n) (hc : Cw n (mq F)) (ht : G_t F t sk) {S i : Nat} (hi : i < n) {its cited left : Int32} (hcd : cited = -9 ∨ ∃ c, c < 31 ∧ cited = nI c)
    (hk : K (some (.int (b2i (dueB n (mq F) sk (S &&& t) i its cited left = true)))) (hH L xs J s F)) : mm_call mm_Ex (d + 1) k_X6_isDue [.ref 75, .int (nI i), .int (nI S), .int its, .int cited, .int left] (hH L xs J s F) K := by
  have h9 := hc.1
  have ei : (nI i).toNatClampNeg = i := tn_nI (by omega)
  have hvi : vp_in (nI i) 9 := vp_in_nI (by omega) (by decide)
  have hand : nI S &&& nI t = nI (S &&& t) := fa_and S t
  obtain ⟨u, hu⟩ : ∃ u, u = S &&& t := ⟨_, rfl⟩
  rw [← hu] at hk hand
  have hski := (ht.2 i (by omega)).2
  have ha9 : ∀ j, j ≤ n → agN j (mq F) u i left ≤ 9 := fun j hj => Nat.le_trans (fa_cnt_le _ _) (by omega)
  have hp9 : ∀ j, j ≤ n → prN j (mq F) u i left ≤ 9 := fun j hj => Nat.le_trans (fa_cnt_le _ _) (by omega)
  refine mm_run 60 ⟨hvi, ?_⟩
  have e0 : F 90 (nI i).toNatClampNeg = nI (sk i) := by rw [ei]; exact (ht.2 i (by omega)).1
  refine lp (n := n) (P := fun j => ∀ (x a b c : Int32) (w1 w2 : Value), x = nI j → a = nI (sk i + agN j (mq F) u i left) → b = nI (prN j (mq F) u i left) → c = b2i (otB j (mq F) u i = true) → mm_Ex (d + 1) k_X6_isDue 11 (0, 0) [.ref 75, .int (nI i), .int (nI S), .int its, .int cited, .int left, .int a, .int b, .int c, .int x, w1, w2] [] (hH L xs J s F) K) ?_ ?_ _ _ _ _ _ _ rfl (by rw [e0]; rfl) rfl rfl
  · intro x a b c w1 w2 hx ha hb hcc
    subst hx
    have hA := ha9 n (Nat.le_refl n)
    have hP := hp9 n (Nat.le_refl n)
    -- the end: by kind
    have a0 : (a = 0 ↔ sk i + agN n (mq F) u i left = 0) := by
      rw [ha]
      exact nI_eq (b := 0) (by omega) (by decide)
    have a2 : ((2 : Int32) ≤ a ↔ ¬ sk i + agN n (mq F) u i left < 2) := by
      rw [ha]
      refine (nI_leI (a := 2) (by decide) (by omega)).trans ?_
      omega
    have b0 : (b ≤ 0 ↔ ¬ 0 < prN n (mq F) u i left) := by
      rw [hb]
      refine (nI_leI (b := 0) (by omega) (by decide)).trans ?_
      omega
    have J98 : ∀ y, y = b2i (bdB u cited = true) → mm_Ex (d + 1) k_X6_isDue 98 (0, 0) [.ref 75, .int (nI i), .int (nI S), .int its, .int cited, .int left, .int a, .int b, .int c, .int (nI n), w1, w2] [.int y] (hH L xs J s F) K := by
      intro y hy
      unfold dueB dueK at hk
      have y0 : y = 0 ↔ ¬ bdB u cited = true := by rw [hy]; exact b2i_0
      have c0 : c = 0 ↔ ¬ otB n (mq F) u i = true := by rw [hcc]; exact b2i_0
      have R : ∀ (ip : Nat) (v : Int32) (z : Bool), v = b2i (z = true) → K (some (.int (b2i (z = true)))) (hH L xs J s F) → (v = 0 ∨ v = 1) ∧ K (some (.int v)) (hH L xs J s F) := fun ip v z e q => by
        subst e
        exact ⟨b2i_01, q⟩
      refine mm_run 60 (And.intro (fun k1 => ?_) (fun k1 => And.intro (fun k2 => ?_) (fun k2 => And.intro (fun k3 => ?_) (fun k3 => And.intro (fun k4 => ?_) (fun k4 => And.intro (fun k5 => ?_) (fun k5 => ?_))))))
      · rw [if_pos k1] at hk
        have Z : ¬ (decide (sk i + agN n (mq F) u i left = 0) && bdB u cited) = true → mm_Ex (d + 1) k_X6_isDue 107 (0, 0) [.ref 75, .int (nI i), .int (nI S), .int its, .int cited, .int left, .int a, .int b, .int c, .int y, w1, w2] [] (hH L xs J s F) K := fun q => mm_run 5 (mm_run 5 (R 0 0 _ (b2i_f q).symm hk))
        refine And.intro (fun q => Z ?_) (fun q => And.intro (fun q2 => Z ?_) (fun q2 => mm_run 5 (R 0 1 _ (b2i_t ?_).symm hk)))
        · rw [a0] at q
          rw [decide_eq_false q]
          simp
        · rw [y0] at q2
          simp [q2]
        · rw [a0] at q
          rw [y0] at q2
          simp only [Classical.not_not] at q2
          simp [q, q2]
      · rw [if_neg k1, if_pos k2] at hk
        refine And.intro (fun q => mm_run 5 (R 0 0 _ (b2i_f ?_).symm hk)) (fun q => mm_run 5 (R 0 1 _ (b2i_t ?_).symm hk))
        · rw [a2] at q
          simpa using q
        · rw [a2, Classical.not_not] at q
          simpa using q
      · rw [if_neg k1, if_neg k2, if_pos k3] at hk
        have Z : ¬ (decide (sk i + agN n (mq F) u i left = 0) && decide (0 < prN n (mq F) u i left)) = true → mm_Ex (d + 1) k_X6_isDue 122 (0, 0) [.ref 75, .int (nI i), .int (nI S), .int its, .int cited, .int left, .int a, .int b, .int c, .int y, w1, w2] [] (hH L xs J s F) K := fun q => mm_run 5 (mm_run 5 (R 0 0 _ (b2i_f q).symm hk))
        refine And.intro (fun q => Z ?_) (fun q => And.intro (fun q2 => Z ?_) (fun q2 => mm_run 5 (R 0 1 _ (b2i_t ?_).symm hk)))
        · rw [a0] at q
          rw [decide_eq_false q]
          simp
        · rw [b0] at q2
          simp [q2]
        · rw [a0] at q
          rw [b0, Classical.not_not] at q2
          simp [q, q2]
      · rw [if_neg k1, if_neg k2, if_neg k3, if_pos k4] at hk
        have Z : ¬ (decide (sk i + agN n (mq F) u i left = 0) && (bdB u cited && otB n (mq F) u i)) = true → mm_Ex (d + 1) k_X6_isDue 132 (0, 0) [.ref 75, .int (nI i), .int (nI S), .int its, .int cited, .int left, .int a, .int b, .int c, .int y, w1, w2] [] (hH L xs J s F) K := fun q => mm_run 5 (mm_run 5 (R 0 0 _ (b2i_f q).symm hk))
        refine And.intro (fun q => Z ?_) (fun q => And.intro (fun q2 => Z ?_) (fun q2 => And.intro (fun q3 => Z ?_) (fun q3 => mm_run 5 (R 0 1 _ (b2i_t ?_).symm hk))))
        · rw [a0] at q
          rw [decide_eq_false q]
          simp
        · rw [y0] at q2
          simp [q2]
        · rw [c0] at q3
          simp [q3]
        · rw [a0] at q
          rw [y0, Classical.not_not] at q2
          rw [c0, Classical.not_not] at q3
          simp [q, q2, q3]
      · rw [if_neg k1, if_neg k2, if_neg k3, if_neg k4, if_pos k5] at hk
        exact R 0 1 true rfl hk
      · rw [if_neg k1, if_neg k2, if_neg k3, if_neg k4, if_neg k5] at hk
        refine And.intro (fun q => mm_run 5 (R 0 0 _ (b2i_f ?_).symm hk)) (fun q => mm_run 5 (R 0 1 _ (b2i_t ?_).symm hk))
        · rw [a0] at q
          simpa using q
        · rw [a0] at q
          simpa using q
    have J95 : bdB u cited = true → mm_Ex (d + 1) k_X6_isDue 95 (0, 0) [.ref 75, .int (nI i), .int (nI S), .int its, .int cited, .int left, .int a, .int b, .int c, .int (nI n), w1, w2] [] (hH L xs J s F) K := fun q => mm_run 5 (J98 1 (b2i_t q).symm)
    refine mm_run 60 (And.intro (fun _ => And.intro (fun q => J95 ?_) (fun q => ?_)) (fun c => absurd ?_ c))
    · simp [bdB, q]
    · rcases hcd with hcd | ⟨cc, hc1, rfl⟩
      · exact absurd hcd q
      · have ecc : (nI cc).toNatClampNeg = cc := tn_nI (by omega)
        show mm_call mm_Ex d k_X6_has [.int (nI S &&& F 75 19), .int (nI cc)] _ _
        rw [ht.1, hand]
        refine s_hasN hc1 (And.intro (fun q2 => J98 0 (b2i_f ?_).symm) (fun q2 => J95 ?_))
        · rw [b2i_0] at q2
          simp [bdB, q, ecc, q2]
        · have := b2i_p q2
          simp [bdB, ecc, this]
    · show F 75 10 ≤ nI n
      rw [hn]
      exact (nI_leI (by omega) (by omega)).mpr (Nat.le_refl n)
  · intro j hj ih x a b c w1 w2 hx ha hb hcc
    subst hx
    have ej : (nI j).toNatClampNeg = j := tn_nI (by omega)
    have hv : vp_in (nI j) 9 := vp_in_nI (by omega) (by decide)
    refine mm_run 60 (And.intro (fun q => ?_) (fun q => ?_))
    · have q : F 75 10 ≤ nI j := q
      rw [hn] at q
      exact absurd q (nleI hj (by omega))
    · show mm_call mm_Ex d k_X6_has [.int (nI S &&& F 75 19), .int (nI j)] _ _
      rw [ht.1, hand]
      refine s_hasN (by omega) ?_
      -- names
      obtain ⟨nm, hnm⟩ : ∃ nm : Bool, nm = (u.testBit j && (decide (mq F 3 j = nI i) && !decide (nI j = left))) := ⟨_, rfl⟩
      obtain ⟨st, hst⟩ : ∃ st : Int32, st = b2i (u.testBit j = true) := ⟨_, rfl⟩
      have J82 : ∀ y, y = b2i (otB (j + 1) (mq F) u i = true) → mm_Ex (d + 1) k_X6_isDue 82 (0, 0) [.ref 75, .int (nI i), .int (nI S), .int its, .int cited, .int left, .int (nI (sk i + agN (j + 1) (mq F) u i left)), .int (nI (prN (j + 1) (mq F) u i left)), .int c, .int (nI j), .int st, .int (b2i (nm = true))] [.int y] (hH L xs J s F) K := fun y hy => mm_run 60 (ih _ _ _ _ _ _ (nI_1 j) rfl rfl hy)
      have J61 : ∀ y, y = b2i ((nm && decide (0 < mq F 4 j)) = true) → mm_Ex (d + 1) k_X6_isDue 61 (0, 0) [.ref 75, .int (nI i), .int (nI S), .int its, .int cited, .int left, .int (nI (sk i + agN (j + 1) (mq F) u i left)), .int b, .int c, .int (nI j), .int st, .int (b2i (nm = true))] [.int y, .int b] (hH L xs J s F) K := by
        intro y hy
        have e1 : b + y = nI (prN (j + 1) (mq F) u i left) := by
          have := nI_b 0 (fun j => (u.testBit j && (decide (mq F 3 j = nI i) && !decide (nI j = left))) && decide (0 < mq F 4 j)) j
          rw [Nat.zero_add, Nat.zero_add] at this
          rw [hy, hb, hnm]
          exact this
        have J79 : otB (j + 1) (mq F) u i = true → mm_Ex (d + 1) k_X6_isDue 79 (0, 0) [.ref 75, .int (nI i), .int (nI S), .int its, .int cited, .int left, .int (nI (sk i + agN (j + 1) (mq F) u i left)), .int (nI (prN (j + 1) (mq F) u i left)), .int c, .int (nI j), .int st, .int (b2i (nm = true))] [] (hH L xs J s F) K := fun q => mm_run 5 (J82 1 (b2i_t q).symm)
        have J81 : ¬ otB (j + 1) (mq F) u i = true → mm_Ex (d + 1) k_X6_isDue 81 (0, 0) [.ref 75, .int (nI i), .int (nI S), .int its, .int cited, .int left, .int (nI (sk i + agN (j + 1) (mq F) u i left)), .int (nI (prN (j + 1) (mq F) u i left)), .int c, .int (nI j), .int st, .int (b2i (nm = true))] [] (hH L xs J s F) K := fun q => mm_run 5 (J82 0 (b2i_f q).symm)
        have eot : otB (j + 1) (mq F) u i = (otB j (mq F) u i || (u.testBit j && (!decide (j = i) && decide (mq F 1 j = mq F 1 i)))) := rfl
        rw [← e1] at J79 J81
        refine mm_run 60 (And.intro (fun q => J79 ?_) (fun q => And.intro (fun q2 => J81 ?_) (fun q2 => And.intro (fun q3 => J81 ?_) (fun q3 => ⟨hv, hvi, And.intro (fun q4 => J81 ?_) (fun q4 => J79 ?_)⟩))))
        · rw [hcc] at q
          rw [eot, b2i_p q]
          rfl
        · rw [hcc, b2i_0] at q
          rw [hst, b2i_0] at q2
          rw [eot]
          simp [q, q2]
        · rw [hcc, b2i_0] at q
          have q3 := (nI_eq (a := j) (b := i) (by omega) (by omega)).mp q3
          rw [eot]
          simp [q3]
          subst q3
          simpa using q
        · rw [hcc, b2i_0] at q
          rw [ej, ei] at q4
          have q4 : ¬ mq F 1 j = mq F 1 i := q4
          rw [eot]
          simp [q4]
          simpa using q
        · rw [ej, ei] at q4
          have q4 : mq F 1 j = mq F 1 i := q4
          rw [hst] at q2
          have q2 := b2i_p q2
          have q3 : ¬ j = i := fun z => q3 (by rw [z])
          rw [eot]
          simp [q2, q3, q4]
      have J48 : ∀ y, y = b2i ((nm && decide (mq F 4 j < 0)) = true) → mm_Ex (d + 1) k_X6_isDue 48 (0, 0) [.ref 75, .int (nI i), .int (nI S), .int its, .int cited, .int left, .int a, .int b, .int c, .int (nI j), .int st, .int (b2i (nm = true))] [.int y, .int a] (hH L xs J s F) K := by
        intro y hy
        have e1 : a + y = nI (sk i + agN (j + 1) (mq F) u i left) := by
          have := nI_b (sk i) (fun j => (u.testBit j && (decide (mq F 3 j = nI i) && !decide (nI j = left))) && decide (mq F 4 j < 0)) j
          rw [hy, ha, hnm]
          exact this
        have J60 : ¬ (nm && decide (0 < mq F 4 j)) = true → mm_Ex (d + 1) k_X6_isDue 60 (0, 0) [.ref 75, .int (nI i), .int (nI S), .int its, .int cited, .int left, .int (a + y), .int b, .int c, .int (nI j), .int st, .int (b2i (nm = true))] [.int b] (hH L xs J s F) K := fun q => by
          rw [e1]
          exact mm_run 5 (J61 0 (b2i_f q).symm)
        rw [← e1] at J61
        refine mm_run 60 (And.intro (fun q => J60 ?_) (fun q => ⟨hv, And.intro (fun q2 => J60 ?_) (fun q2 => J61 1 (b2i_t ?_).symm)⟩))
        · rw [b2i_0] at q
          simp [q]
        · rw [ej] at q2
          have q2 : mq F 4 j ≤ 0 := q2
          simp [Int32.not_lt.mpr q2]
        · rw [ej] at q2
          have q2 : ¬ mq F 4 j ≤ 0 := q2
          have q := b2i_p q
          simp [q, Int32.not_le.mp q2]
      have J36 : ∀ y, y = b2i (nm = true) → mm_Ex (d + 1) k_X6_isDue 36 (0, 0) [.ref 75, .int (nI i), .int (nI S), .int its, .int cited, .int left, .int a, .int b, .int c, .int (nI j), .int st, w2] [.int y] (hH L xs J s F) K := by
        intro y hy
        subst hy
        have J47 : ¬ (nm && decide (mq F 4 j < 0)) = true → mm_Ex (d + 1) k_X6_isDue 47 (0, 0) [.ref 75, .int (nI i), .int (nI S), .int its, .int cited, .int left, .int a, .int b, .int c, .int (nI j), .int st, .int (b2i (nm = true))] [.int a] (hH L xs J s F) K := fun q => mm_run 5 (J48 0 (b2i_f q).symm)
        refine mm_run 60 (And.intro (fun q => J47 ?_) (fun q => ⟨hv, And.intro (fun q2 => J47 ?_) (fun q2 => J48 1 (b2i_t ?_).symm)⟩))
        · rw [b2i_0] at q
          simp [q]
        · rw [ej] at q2
          have q2 : 0 ≤ mq F 4 j := q2
          simp [Int32.not_lt.mpr q2]
        · rw [ej] at q2
          have q2 : ¬ 0 ≤ mq F 4 j := q2
          have q := b2i_p q
          simp [q, Int32.not_le.mp q2]
      have J35 : ¬ nm = true → mm_Ex (d + 1) k_X6_isDue 35 (0, 0) [.ref 75, .int (nI i), .int (nI S), .int its, .int cited, .int left, .int a, .int b, .int c, .int (nI j), .int st, w2] [] (hH L xs J s F) K := fun q => mm_run 5 (J36 0 (b2i_f q).symm)
      rw [← hst]
      refine And.intro (fun q => J35 ?_) (fun q => ⟨hv, And.intro (fun q2 => J35 ?_) (fun q2 => And.intro (fun q3 => J35 ?_) (fun q3 => J36 1 (b2i_t ?_).symm))⟩)
      · rw [hst, b2i_0] at q
        rw [hnm]
        simp [q]
      · rw [ej] at q2
        have q2 : ¬ mq F 3 j = nI i := q2
        rw [hnm]
        simp [q2]
      · rw [hnm]
        simp [q3]
      · rw [ej] at q2
        have q2 : mq F 3 j = nI i := q2
        rw [hst] at q
        have q := b2i_p q
        rw [hnm]
        simp [q, q2, q3]
theorem wayB_lt {S : Nat} (h : wayB n (mq F) sk t S = true) (hn : n ≤ 9) : S < 2 ^ n := by
  unfold wayB at h
  simp only [Bool.and_eq_true, decide_eq_true_eq] at h
  rw [← h.2]
  exact setB_lt _ _
theorem s_dueBy (hn : F 75 10 = nI n) (hc : Cw n (mq F)) (ht : G_t F t sk) {S : Nat} (hk : K (some (.int (nI (dueS n (mq F) sk t S)))) (hH L xs J s F)) : mm_call mm_Ex (d + 2) k_X6_dueBy [.ref 75, .int (nI S)] (hH L xs J s F) K := by
  have h9 := hc.1
  refine mm_run 60 (lp (n := n) (P := fun i => ∀ x a, x = nI i → a = nI (setB (fun i => t.testBit i && dueB n (mq F) sk (S &&& t) i (mq F 0 i) (mq F 3 i) (-9)) i) → mm_Ex (d + 2) k_X6_dueBy 4 (0, 0) [.ref 75, .int (nI S), .int a, .int x] [] (hH L xs J s F) K) ?_ ?_ 0 0 rfl rfl)
  · intro x a hx ha
    subst hx ha
    refine mm_run 60 (And.intro (fun _ => hk) (fun c => absurd ?_ c))
    show F 75 10 ≤ nI n
    rw [hn]
    exact (nI_leI (by omega) (by omega)).mpr (Nat.le_refl n)
  · intro i hi ih x a hx ha
    subst hx
    have ei : (nI i).toNatClampNeg = i := tn_nI (by omega)
    have hv : vp_in (nI i) 9 := vp_in_nI (by omega) (by decide)
    obtain ⟨p, hp'⟩ : ∃ p : Bool, p = (t.testBit i && dueB n (mq F) sk (S &&& t) i (mq F 0 i) (mq F 3 i) (-9)) := ⟨_, rfl⟩
    have J33 : ∀ y, y = nI (if p then 2 ^ i else 0) → mm_Ex (d + 2) k_X6_dueBy 33 (0, 0) [.ref 75, .int (nI S), .int a, .int (nI i)] [.int y, .int a] (hH L xs J s F) K := fun y hy => by
      refine mm_run 60 (ih _ _ (nI_1 i) ?_)
      rw [ha, hy, fa_or, hp']
      rfl
    have J32 : p = false → mm_Ex (d + 2) k_X6_dueBy 32 (0, 0) [.ref 75, .int (nI S), .int a, .int (nI i)] [.int a] (hH L xs J s F) K := fun q => mm_run 5 (J33 0 (by rw [q]; rfl))
    refine mm_run 60 (And.intro (fun q => ?_) (fun q => ?_))
    · have q : F 75 10 ≤ nI i := q
      rw [hn] at q
      exact absurd q (nleI hi (by omega))
    · show mm_call mm_Ex (d + 1) k_X6_has [.int (F 75 19), .int (nI i)] _ _
      rw [ht.1]
      refine s_hasN (by omega) (And.intro (fun q => J32 ?_) (fun q => ⟨hv, hv, ?_⟩))
      · rw [b2i_0] at q
        rw [hp']
        simp [q]
      · show mm_call mm_Ex (d + 1) k_X6_isDue [.ref 75, .int (nI i), .int (nI S), .int (F 82 (nI i).toNatClampNeg), .int (F 85 (nI i).toNatClampNeg), .int (-9)] _ _
        rw [ei]
        have q := b2i_p q
        refine s_isDue hn hc ht hi ?_ (And.intro (fun q2 => J32 ?_) (fun q2 => J33 _ ?_))
        · obtain ⟨-, -, -, q4, -⟩ := hc.2 i hi
          rcases q4 with ⟨z, -⟩ | ⟨j, j1, j2, -⟩
          · exact Or.inl z
          · exact Or.inr ⟨j, by omega, j2⟩
        · rw [b2i_0] at q2
          have q2 : ¬ dueB n (mq F) sk (S &&& t) i (mq F 0 i) (mq F 3 i) (-9) = true := q2
          rw [hp']
          simp [q2]
        · have q2 : dueB n (mq F) sk (S &&& t) i (mq F 0 i) (mq F 3 i) (-9) = true := b2i_p q2
          rw [hp', q, q2]
          exact shl1 (by omega)
theorem s_isWay (hn : F 75 10 = nI n) (hc : Cw n (mq F)) (ht : G_t F t sk) (ht9 : t < 2 ^ 31) {S : Nat} (hS : S < 2 ^ 31) (hk : K (some (.int (b2i (wayB n (mq F) sk t S = true)))) (hH L xs J s F)) : mm_call mm_Ex (d + 3) k_X6_isWay [.ref 75, .int (nI S)] (hH L xs J s F) K := by
  have h9 := hc.1
  have hlt := setB_lt (fun i => t.testBit i && dueB n (mq F) sk (S &&& t) i (mq F 0 i) (mq F 3 i) (-9)) n
  have hp9 := pw9 h9
  have J15 : ∀ y, y = b2i (wayB n (mq F) sk t S = true) → mm_Ex (d + 3) k_X6_isWay 15 (0, 0) [.ref 75, .int (nI S)] [.int y] (hH L xs J s F) K := fun y hy => by
    subst hy
    exact mm_run 5 ⟨b2i_01, hk⟩
  have J14 : ¬ wayB n (mq F) sk t S = true → mm_Ex (d + 3) k_X6_isWay 14 (0, 0) [.ref 75, .int (nI S)] [] (hH L xs J s F) K := fun q => mm_run 5 (J15 0 (b2i_f q).symm)
  have hd : (nI S &&& (F 75 19 ^^^ (-1)) = 0) ↔ dif S t = 0 := by
    rw [ht.1, difI]
    exact nI_eq (b := 0) (dif_le S t hS) (by decide)
  refine mm_run 60 (And.intro (fun q => J14 ?_) (fun q => s_dueBy hn hc ht (And.intro (fun q2 => J14 ?_) (fun q2 => J15 1 (b2i_t ?_).symm))))
  · rw [hd] at q
    simp [wayB, q]
  · have : ¬ dueS n (mq F) sk t S = S := fun z => q2 (by rw [z])
    simp [wayB, this]
  · rw [hd] at q
    have : dueS n (mq F) sk t S = S := (nI_eq (Nat.lt_of_lt_of_le hlt (by omega)) hS).mp q2
    simp [wayB, q, this]
theorem pwI (hn : F 75 10 = nI n) (h9 : n ≤ 9) : (1 : Int32) <<< (F 75 10 &&& 31) = nI (2 ^ n) := by rw [hn, shl1 (by omega)]
theorem s_wayMany (hn : F 75 10 = nI n) (hc : Cw n (mq F)) (ht : G_t F t sk) (ht9 : t < 2 ^ 31) (hk : K (some (.int (nI (fa_cnt (wayB n (mq F) sk t) (2 ^ n))))) (hH L xs J s F)) : mm_call mm_Ex (d + 4) k_X6_wayMany [.ref 75] (hH L xs J s F) K := by
  have h9 := hc.1
  have hp9 := pw9 h9
  have hpw := pwI hn h9
  refine mm_run 60 (lp (n := 2 ^ n) (P := fun S => ∀ x a, x = nI S → a = nI (0 + fa_cnt (wayB n (mq F) sk t) S) → mm_Ex (d + 4) k_X6_wayMany 4 (0, 0) [.ref 75, .int a, .int x] [] (hH L xs J s F) K) ?_ ?_ 0 0 rfl rfl)
  · intro x a hx ha
    subst hx
    rw [Nat.zero_add] at ha
    subst ha
    refine mm_run 60 (And.intro (fun _ => hk) (fun c => absurd ?_ c))
    show (1 : Int32) <<< (F 75 10 &&& 31) ≤ nI (2 ^ n)
    rw [hpw]
    exact (nI_leI (by omega) (by omega)).mpr (Nat.le_refl _)
  · intro S hS ih x a hx ha
    subst hx
    have J18 : ∀ y, y = b2i (wayB n (mq F) sk t S = true) → mm_Ex (d + 4) k_X6_wayMany 18 (0, 0) [.ref 75, .int a, .int (nI S)] [.int y, .int a] (hH L xs J s F) K := fun y hy => by
      refine mm_run 60 (ih _ _ (nI_1 S) ?_)
      rw [ha, hy]
      exact nI_b 0 _ S
    refine mm_run 60 (And.intro (fun q => ?_) (fun q => s_isWay hn hc ht ht9 (by omega) (And.intro (fun q2 => J18 0 (b2i_f (b2i_0.mp q2)).symm) (fun q2 => J18 1 (b2i_t (b2i_p q2)).symm))))
    have q : (1 : Int32) <<< (F 75 10 &&& 31) ≤ nI S := q
    rw [hpw] at q
    exact absurd q (nleI hS (by omega))
/-- the first way, or none -/
def frst (n : Nat) (p : Nat → Bool) : Int32 := if fa_first p (2 ^ n) < 2 ^ n then nI (fa_first p (2 ^ n)) else -9
theorem s_firstWay (hn : F 75 10 = nI n) (hc : Cw n (mq F)) (ht : G_t F t sk) (ht9 : t < 2 ^ 31) (hk : K (some (.int (frst n (wayB n (mq F) sk t)))) (hH L xs J s F)) : mm_call mm_Ex (d + 4) k_X6_firstWay [.ref 75] (hH L xs J s F) K := by
  have h9 := hc.1
  have hp9 := pw9 h9
  have hpw := pwI hn h9
  have hle := fa_first_le (wayB n (mq F) sk t) (2 ^ n)
  unfold frst at hk
  have J14 : ∀ S, S = fa_first (wayB n (mq F) sk t) (2 ^ n) → mm_Ex (d + 4) k_X6_firstWay 14 (0, 0) [.ref 75, .int (nI S)] [] (hH L xs J s F) K := by
    intro S hS
    rw [← hS] at hk hle
    refine mm_run 60 (And.intro (fun q => ?_) (fun q => ?_))
    · have q : (1 : Int32) <<< (F 75 10 &&& 31) ≤ nI S := q
      rw [hpw] at q
      have q := (nI_leI (by omega) (by omega)).mp q
      rw [if_neg (by omega)] at hk
      exact mm_run 5 hk
    · have q : ¬ (1 : Int32) <<< (F 75 10 &&& 31) ≤ nI S := q
      rw [hpw] at q
      have : S < 2 ^ n := Nat.lt_of_not_le fun z => q ((nI_leI (by omega) (by omega)).mpr z)
      rw [if_pos this] at hk
      exact mm_run 5 hk
  refine mm_run 60 (lp (n := fa_first (wayB n (mq F) sk t) (2 ^ n)) (P := fun S => ∀ x, x = nI S → mm_Ex (d + 4) k_X6_firstWay 2 (0, 0) [.ref 75, .int x] [] (hH L xs J s F) K) ?_ ?_ 0 rfl)
  · intro x hx
    subst hx
    refine mm_run 60 (And.intro (fun _ => J14 _ rfl) (fun q => s_isWay hn hc ht ht9 (by omega) (And.intro (fun _ => J14 _ rfl) (fun q2 => ?_))))
    have q : ¬ (1 : Int32) <<< (F 75 10 &&& 31) ≤ nI _ := q
    rw [hpw] at q
    have hlt : fa_first (wayB n (mq F) sk t) (2 ^ n) < 2 ^ n := Nat.lt_of_not_le fun z => q ((nI_leI (by omega) (by omega)).mpr z)
    exact absurd (fa_first_yes _ _ hlt) (b2i_0.mp q2)
  · intro S hS ih x hx
    subst hx
    have hno := fa_first_no _ _ _ hS
    refine mm_run 60 (And.intro (fun q => ?_) (fun q => s_isWay hn hc ht ht9 (by omega) (And.intro (fun q2 => ?_) (fun q2 => ih _ (nI_1 S)))))
    · have q : (1 : Int32) <<< (F 75 10 &&& 31) ≤ nI S := q
      rw [hpw] at q
      exact absurd q (nleI (by omega) (by omega))
    · have := b2i_p q2
      rw [hno] at this
      cases this
theorem s_standsIn (hn : F 75 10 = nI n) (hc : Cw n (mq F)) (ht : G_t F t sk) (ht9 : t < 2 ^ 31) {i : Nat} (hi : i < n) (hk : K (some (.int (nI (fa_cnt (fun S => S.testBit i && wayB n (mq F) sk t S) (2 ^ n))))) (hH L xs J s F)) : mm_call mm_Ex (d + 4) k_X6_standsIn [.ref 75, .int (nI i)] (hH L xs J s F) K := by
  have h9 := hc.1
  have hp9 := pw9 h9
  have hpw := pwI hn h9
  refine mm_run 60 (lp (n := 2 ^ n) (P := fun S => ∀ x a, x = nI S → a = nI (0 + fa_cnt (fun S => S.testBit i && wayB n (mq F) sk t S) S) → mm_Ex (d + 4) k_X6_standsIn 4 (0, 0) [.ref 75, .int (nI i), .int a, .int x] [] (hH L xs J s F) K) ?_ ?_ 0 0 rfl rfl)
  · intro x a hx ha
    subst hx
    rw [Nat.zero_add] at ha
    subst ha
    refine mm_run 60 (And.intro (fun _ => hk) (fun c => absurd ?_ c))
    show (1 : Int32) <<< (F 75 10 &&& 31) ≤ nI (2 ^ n)
    rw [hpw]
    exact (nI_leI (by omega) (by omega)).mpr (Nat.le_refl _)
  · intro S hS ih x a hx ha
    subst hx
    have J22 : ∀ y, y = b2i ((S.testBit i && wayB n (mq F) sk t S) = true) → mm_Ex (d + 4) k_X6_standsIn 22 (0, 0) [.ref 75, .int (nI i), .int a, .int (nI S)] [.int y, .int a] (hH L xs J s F) K := fun y hy => by
      refine mm_run 60 (ih _ _ (nI_1 S) ?_)
      rw [ha, hy]
      exact nI_b 0 (fun S => S.testBit i && wayB n (mq F) sk t S) S
    have J21 : ¬ (S.testBit i && wayB n (mq F) sk t S) = true → mm_Ex (d + 4) k_X6_standsIn 21 (0, 0) [.ref 75, .int (nI i), .int a, .int (nI S)] [.int a] (hH L xs J s F) K := fun q => mm_run 5 (J22 0 (b2i_f q).symm)
    refine mm_run 60 (And.intro (fun q => ?_) (fun q => s_hasN (by omega) (And.intro (fun q2 => J21 ?_) (fun q2 => s_isWay hn hc ht ht9 (by omega) (And.intro (fun q3 => J21 ?_) (fun q3 => J22 1 (b2i_t ?_).symm))))))
    · have q : (1 : Int32) <<< (F 75 10 &&& 31) ≤ nI S := q
      rw [hpw] at q
      exact absurd q (nleI hS (by omega))
    · rw [b2i_0] at q2
      simp [q2]
    · rw [b2i_0] at q3
      simp [q3]
    · simp [b2i_p q2, b2i_p q3]
end MD
end
section
/-! the reference: what is sure, ways told -/
/-- the reference's court, who is there, what is against whom -/
def Cx (F : Nat → Nat → Int32) (n t : Nat) (sk : Nat → Nat) : Prop := F 75 10 = nI n ∧ Cw n (mq F) ∧ G_t F t sk ∧ t < 2 ^ n
theorem mq_75 {F : Nat → Nat → Int32} {j : Nat} {x : Int32} : mq (up2 F 75 j x) = mq F := mq_up (by decide)
theorem Cx.up {F : Nat → Nat → Int32} {n t : Nat} {sk : Nat → Nat} (h : Cx F n t sk) {j : Nat} {x : Int32} (h1 : j ≠ 10) (h2 : j ≠ 19) : Cx (up2 F 75 j x) n t sk := by
  obtain ⟨a, b, c, e⟩ := h
  refine ⟨?_, by rw [mq_75]; exact b, ⟨?_, c.2⟩, e⟩
  · show upd (F 75) j x 10 = _
    rw [pk_un (Ne.symm h1)]
    exact a
  · show upd (F 75) j x 19 = _
    rw [pk_un (Ne.symm h2)]
    exact c.1
theorem Cx.all {F : Nat → Nat → Int32} {n : Nat} (hn : F 75 10 = nI n) (hc : Cw n (mq F)) : Cx (S_all F n) n (2 ^ n - 1) (fun _ => 0) := by
  have hm : mq (S_all F n) = mq F := by
    unfold S_all
    rw [mq_up (by decide), mq_75]
  refine ⟨hn, by rw [hm]; exact hc, ⟨rfl, fun i hi => ⟨?_, Nat.zero_le _⟩⟩, ?_⟩
  · show fil (F 90) 0 9 0 i = _
    unfold fil
    rw [if_pos (by omega)]
    rfl
  · have := Nat.two_pow_pos n
    omega
theorem Cx.t31 {F : Nat → Nat → Int32} {n t : Nat} {sk : Nat → Nat} (h : Cx F n t sk) : t < 2 ^ 31 := by
  have := pw9 h.2.1.1
  have := h.2.2.2
  omega
theorem CE.trans {F G H : Nat → Nat → Int32} (a : CE F G) (b : CE G H) : CE F H := ⟨fun k h1 h2 h3 h4 h5 => (a.1 k h1 h2 h3 h4 h5).trans (b.1 k h1 h2 h3 h4 h5), fun j h1 h2 h3 h4 h5 => (a.2 j h1 h2 h3 h4 h5).trans (b.2 j h1 h2 h3 h4 h5)⟩
theorem CE.up {F : Nat → Nat → Int32} {j : Nat} {x : Int32} (h : j = 19 ∨ j = 21 ∨ j = 22 ∨ j = 25 ∨ j = 26) : CE (up2 F 75 j x) F := by
  refine ⟨fun k h1 _ _ _ _ => ?_, fun i h1 h2 h3 h4 h5 => ?_⟩
  · simp only [up2, upF, if_neg h1]
  · show upd (F 75) j x i = _
    rw [pk_un (by omega)]
theorem CE.set {F G : Nat → Nat → Int32} (h : CE F G) (j : Nat) (x : Int32) : CE (up2 F 75 j x) (up2 G 75 j x) := by
  refine ⟨fun k h1 h2 h3 h4 h5 => ?_, fun i h1 h2 h3 h4 h5 => ?_⟩
  · simp only [up2, upF, if_neg h1]
    exact h.1 k h1 h2 h3 h4 h5
  · show upd (F 75) j x i = upd (G 75) j x i
    unfold upd
    split
    · rfl
    · exact h.2 i h1 h2 h3 h4 h5
theorem CE.all {F : Nat → Nat → Int32} {n : Nat} : CE (S_all F n) F := by
  refine ⟨fun k h1 h2 h3 h4 h5 => ?_, fun i h1 h2 h3 h4 h5 => ?_⟩
  · simp only [S_all, up2, upF, if_neg h1, if_neg h3]
  · show upd (F 75) 19 _ i = _
    rw [pk_un h1]
theorem CE.fi {F G : Nat → Nat → Int32} (h : CE F G) (w : Nat) : CE (S_fi F w) (S_fi G w) := by
  have e81 : F 81 = G 81 := h.1 81 (by decide) (by decide) (by decide) (by decide) (by decide)
  refine ⟨fun k h1 h2 h3 h4 h5 => ?_, fun i h1 h2 h3 h4 h5 => ?_⟩
  · simp only [S_fi, up2, upF, if_neg h1]
    split
    · show upd (F 81) w (F 81 w + 1) = upd (G 81) w (G 81 w + 1)
      rw [e81]
    · exact h.1 k h1 h2 h3 h4 h5
  · show upd (F 75) 5 (nI w) i = upd (G 75) 5 (nI w) i
    unfold upd
    split
    · rfl
    · exact h.2 i h1 h2 h3 h4 h5
/-- what all ways have; what none has -/
def stN (t : Nat) (w : Nat → Bool) : Nat → Nat
  | 0 => t
  | N + 1 => if w N then stN t w N &&& N else stN t w N
def flN (t : Nat) (w : Nat → Bool) : Nat → Nat
  | 0 => t
  | N + 1 => if w N then dif (flN t w N) N else flN t w N
def stS (n t : Nat) (w : Nat → Bool) : Nat := if anyB w (2 ^ n) then stN t w (2 ^ n) else 0
def flS (n t : Nat) (w : Nat → Bool) : Nat := if anyB w (2 ^ n) then flN t w (2 ^ n) else 0
theorem stN_lt {t n : Nat} {w : Nat → Bool} (h : t < 2 ^ n) : ∀ N, stN t w N < 2 ^ n
  | 0 => h
  | N + 1 => by
    have := stN_lt h (w := w) N
    unfold stN
    split
    · exact Nat.lt_of_le_of_lt Nat.and_le_left this
    · exact this
theorem flN_lt {t n : Nat} {w : Nat → Bool} (h : t < 2 ^ n) : ∀ N, flN t w N < 2 ^ n
  | 0 => h
  | N + 1 => by
    have := flN_lt h (w := w) N
    unfold flN
    split
    · exact dif_le _ _ this
    · exact this
def S_ways (F : Nat → Nat → Int32) : Int32 × (Nat → Nat → Int32) :=
  let n := (F 75 10).toNatClampNeg
  (nI (fa_cnt (wayB n (mq F) (fun _ => 0) (2 ^ n - 1)) (2 ^ n)), S_te F (frst n (wayB n (mq F) (fun _ => 0) (2 ^ n - 1))))
/-- the i-th of those with a property below N -/
def nthN (w : Nat → Bool) (i : Int32) (N : Nat) : Option Nat := (List.range N).find? (fun S => w S && decide (nI (fa_cnt w S) = i))
def S_sure (F : Nat → Nat → Int32) : Int32 × (Nat → Nat → Int32) :=
  let n := (F 75 10).toNatClampNeg
  (nI (stS n (2 ^ n - 1) (wayB n (mq F) (fun _ => 0) (2 ^ n - 1))), S_te F (nI (flS n (2 ^ n - 1) (wayB n (mq F) (fun _ => 0) (2 ^ n - 1)))))
section MS
variable {d L s : Nat} {xs : Nat → Int32} {J : Nat → Int64} {F : Nat → Nat → Int32} {K : mm_K} {h : mm_H} {n t : Nat} {sk : Nat → Nat}
theorem s_findsSure (hx : Cx F n t sk) (hk : K none (hH L xs J s (up2 (up2 F 75 25 (nI (stS n t (wayB n (mq F) sk t)))) 75 26 (nI (flS n t (wayB n (mq F) sk t)))))) : mm_call mm_Ex (d + 4) k_X6_findsSure [.ref 75] (hH L xs J s F) K := by
  have h9 := hx.2.1.1
  have hp9 := pw9 h9
  have hpw := pwI hx.1 h9
  obtain ⟨w, hw⟩ : ∃ w, w = wayB n (mq F) sk t := ⟨_, rfl⟩
  rw [← hw] at hk
  have ecell : ∀ a b c e : Int32, up2 (up2 (up2 (up2 F 75 25 a) 75 26 b) 75 25 c) 75 26 e = up2 (up2 F 75 25 c) 75 26 e := by
    intro a b c e
    funext x y
    simp only [up2, upF]
    by_cases hx : x = 75
    · subst hx
      simp only [if_true, upd]
      by_cases y26 : y = 26
      · subst y26
        rfl
      · by_cases y25 : y = 25
        · subst y25
          rfl
        · simp [y25, y26]
    · simp [hx]
  refine mm_run 60 ?_
  refine lp (n := 2 ^ n) (P := fun S => ∀ x a h, x = nI S → a = b2i (anyB w S = true) → h = hH L xs J s (up2 (up2 F 75 25 (nI (stN t w S))) 75 26 (nI (flN t w S))) → mm_Ex (d + 4) k_X6_findsSure 12 (0, 0) [.ref 75, .int a, .int x] [] h K) ?_ ?_ 0 0 _ rfl rfl ?_
  · intro x a h hxx ha hh
    subst hxx hh
    have J55 : ∀ y, y = nI (flS n t w) → mm_Ex (d + 4) k_X6_findsSure 55 (0, 0) [.ref 75, .int a, .int (nI (2 ^ n))] [.int y, .ref 75] (hH L xs J s (up2 (up2 (up2 F 75 25 (nI (stN t w (2 ^ n)))) 75 26 (nI (flN t w (2 ^ n)))) 75 25 (nI (stS n t w)))) K := fun y hy => by
      subst hy
      refine mm_run 60 ?_
      refine kh ((hp1 (g := upd ((up2 (up2 (up2 F 75 25 (nI (stN t w (2 ^ n)))) 75 26 (nI (flN t w (2 ^ n)))) 75 25 (nI (stS n t w))) 75) 26 (nI (flS n t w))) rfl).trans (hHx fun z => ?_)) hk
      exact congrFun (ecell _ _ _ _) z
    have J47 : ∀ y, y = nI (stS n t w) → mm_Ex (d + 4) k_X6_findsSure 47 (0, 0) [.ref 75, .int a, .int (nI (2 ^ n))] [.int y, .ref 75] (hH L xs J s (up2 (up2 F 75 25 (nI (stN t w (2 ^ n)))) 75 26 (nI (flN t w (2 ^ n))))) K := fun y hy => by
      subst hy
      refine mm_run 60 (And.intro (fun q => ?_) (fun q => ?_))
      · show mm_Ex _ _ 55 _ _ _ _ _
        refine kx (hp1 (g := upd ((up2 (up2 F 75 25 (nI (stN t w (2 ^ n)))) 75 26 (nI (flN t w (2 ^ n)))) 75) 25 (nI (stS n t w))) rfl) (J55 0 ?_)
        rw [ha, b2i_0] at q
        unfold flS
        rw [if_neg q]
        rfl
      · show mm_Ex _ _ 55 _ _ _ _ _
        refine kx (hp1 (g := upd ((up2 (up2 F 75 25 (nI (stN t w (2 ^ n)))) 75 26 (nI (flN t w (2 ^ n)))) 75) 25 (nI (stS n t w))) rfl) (J55 _ ?_)
        rw [ha] at q
        unfold flS
        rw [if_pos (b2i_p q)]
        rfl
    refine mm_run 60 (And.intro (fun _ => And.intro (fun q => J47 0 ?_) (fun q => J47 _ ?_)) (fun c => absurd ?_ c))
    · rw [ha, b2i_0] at q
      unfold stS
      rw [if_neg q]
      rfl
    · rw [ha] at q
      unfold stS
      rw [if_pos (b2i_p q)]
      rfl
    · show (1 : Int32) <<< (F 75 10 &&& 31) ≤ nI (2 ^ n)
      rw [hpw]
      exact (nI_leI (by omega) (by omega)).mpr (Nat.le_refl _)
  · intro S hS ih x a h hxx ha hh
    subst hxx hh
    have hx2 : Cx (up2 (up2 F 75 25 (nI (stN t w S))) 75 26 (nI (flN t w S))) n t sk := (hx.up (by decide) (by decide)).up (by decide) (by decide)
    have ew : wayB n (mq (up2 (up2 F 75 25 (nI (stN t w S))) 75 26 (nI (flN t w S)))) sk t = w := by rw [mq_75, mq_75, hw]
    refine mm_run 60 (And.intro (fun q => ?_) (fun q => s_isWay hx2.1 hx2.2.1 hx2.2.2.1 hx2.t31 (by omega) ?_))
    · have q : (1 : Int32) <<< (F 75 10 &&& 31) ≤ nI S := q
      rw [hpw] at q
      exact absurd q (nleI hS (by omega))
    · rw [ew]
      have J38 : ∀ a, a = b2i (anyB w (S + 1) = true) → mm_Ex (d + 4) k_X6_findsSure 38 (0, 0) [.ref 75, .int a, .int (nI S)] [] (hH L xs J s (up2 (up2 F 75 25 (nI (stN t w (S + 1)))) 75 26 (nI (flN t w (S + 1))))) K := fun a ha => mm_run 60 (ih _ _ _ (nI_1 S) ha rfl)
      refine And.intro (fun q2 => ?_) (fun q2 => ?_)
      · rw [b2i_0] at q2
        have e1 : stN t w (S + 1) = stN t w S := by rw [stN, if_neg q2]
        have e2 : flN t w (S + 1) = flN t w S := by rw [flN, if_neg q2]
        have e3 : anyB w (S + 1) = anyB w S := by
          rw [anyB]
          simp [q2]
        rw [e1, e2, e3] at J38
        exact J38 a ha
      · have q2 := b2i_p q2
        have e1 : stN t w (S + 1) = stN t w S &&& S := by rw [stN, if_pos q2]
        have e2 : flN t w (S + 1) = dif (flN t w S) S := by rw [flN, if_pos q2]
        have e3 : anyB w (S + 1) = true := by
          rw [anyB, q2]
          simp
        show mm_Ex _ _ 38 _ _ _ _ _
        refine kx ?_ (J38 1 (by rw [e3]; rfl))
        refine (hp2 (g := upd ((up2 (up2 F 75 25 (nI (stN t w S))) 75 26 (nI (flN t w S))) 75) 25 (nI (stN t w S) &&& nI S)) (g2 := upd (upd ((up2 (up2 F 75 25 (nI (stN t w S))) 75 26 (nI (flN t w S))) 75) 25 (nI (stN t w S) &&& nI S)) 26 (nI (flN t w S) &&& (nI S ^^^ (-1)))) rfl rfl).trans (hHx fun z => ?_)
        rw [e1, e2, ← fa_and, ← difI]
        exact congrFun (ecell _ _ _ _) z
  · exact (hp2 (g := upd (F 75) 25 (F 75 19)) (g2 := upd (upd (F 75) 25 (F 75 19)) 26 (F 75 19)) rfl rfl).trans (hHx fun z => by
      rw [hx.2.2.1.1]
      rfl)
theorem m_ways (hn : F 75 10 = nI n) (hc : Cw n (mq F)) (hk : ∀ F', CE F' (S_ways F).2 → K (some (.int (S_ways F).1)) (hH L xs J s F')) : mm_call mm_Ex (d + 5) k_X6_ways [.ref 75] (hH L xs J s F) K := by
  have h9 := hc.1
  have en : (F 75 10).toNatClampNeg = n := by rw [hn]; exact tn_nI (by omega)
  have hx := Cx.all hn hc
  have hm : mq (S_all F n) = mq F := by
    unfold S_all
    rw [mq_up (by decide), mq_75]
  unfold S_ways at hk
  dsimp only at hk
  rw [en] at hk
  refine mm_run 60 (s_all hn h9 (s_firstWay hx.1 hx.2.1 hx.2.2.1 hx.t31 ?_))
  rw [hm]
  have hx2 := hx.up (j := 7) (x := frst n (wayB n (mq F) (fun _ => 0) (2 ^ n - 1))) (by decide) (by decide)
  refine kc (hp1 (g := upd ((S_all F n) 75) 7 (frst n (wayB n (mq F) (fun _ => 0) (2 ^ n - 1)))) rfl) (s_wayMany hx2.1 hx2.2.1 hx2.2.2.1 hx2.t31 ?_)
  have hm2 : mq (upF (S_all F n) 75 (upd ((S_all F n) 75) 7 (frst n (wayB n (mq F) (fun _ => 0) (2 ^ n - 1))))) = mq F := by rw [mq_up (by decide), hm]
  rw [hm2]
  exact hk _ (CE.all.set 7 _)
theorem m_sure (hn : F 75 10 = nI n) (hc : Cw n (mq F)) (hk : ∀ F', CE F' (S_sure F).2 → K (some (.int (S_sure F).1)) (hH L xs J s F')) : mm_call mm_Ex (d + 5) k_X6_sure [.ref 75] (hH L xs J s F) K := by
  have h9 := hc.1
  have en : (F 75 10).toNatClampNeg = n := by rw [hn]; exact tn_nI (by omega)
  have hx := Cx.all hn hc
  have hm : mq (S_all F n) = mq F := by
    unfold S_all
    rw [mq_up (by decide), mq_75]
  unfold S_sure at hk
  dsimp only at hk
  rw [en] at hk
  refine mm_run 60 (s_all hn h9 (s_findsSure hx ?_))
  rw [hm]
  show K (some (.int (nI (stS n (2 ^ n - 1) (wayB n (mq F) (fun _ => 0) (2 ^ n - 1)))))) _
  refine kh (hp1 (g := upd ((up2 (up2 (S_all F n) 75 25 (nI (stS n (2 ^ n - 1) (wayB n (mq F) (fun _ => 0) (2 ^ n - 1))))) 75 26 (nI (flS n (2 ^ n - 1) (wayB n (mq F) (fun _ => 0) (2 ^ n - 1))))) 75) 7 (nI (flS n (2 ^ n - 1) (wayB n (mq F) (fun _ => 0) (2 ^ n - 1))))) rfl) (hk _ ?_)
  exact (((CE.up (by decide)).trans (CE.up (by decide))).trans CE.all).set 7 _
end MS
end
section
/-! the reference: nth, together, till, flips, jam -/
abbrev W0 (F : Nat → Nat → Int32) (n : Nat) : Nat → Bool := wayB n (mq F) (fun _ => 0) (2 ^ n - 1)
theorem mq_all {F : Nat → Nat → Int32} {n : Nat} : mq (S_all F n) = mq F := by
  unfold S_all
  rw [mq_up (by decide), mq_75]
def S_nth (F : Nat → Nat → Int32) (i : Int32) : Int32 × (Nat → Nat → Int32) :=
  let n := (F 75 10).toNatClampNeg
  let p := fun S => W0 F n S && decide (nI (fa_cnt (W0 F n) S) = i)
  if 0 ≤ i then (if fa_first p (2 ^ n) < 2 ^ n then (nI (fa_first p (2 ^ n)), F) else (-3, S_fi F 4)) else (-1, F)
def tgN (t : Nat) (w : Nat → Bool) (i : Nat) : Nat → Nat
  | 0 => t
  | S + 1 => if w S then (if S.testBit i then tgN t w i S &&& S else dif (tgN t w i S) S) else tgN t w i S
def S_together (F : Nat → Nat → Int32) (i : Int32) : Int32 × (Nat → Nat → Int32) :=
  let n := (F 75 10).toNatClampNeg
  if 0 ≤ i ∧ i ≤ F 75 10 - 1 then (if anyB (W0 F n) (2 ^ n) then (nI (tgN (2 ^ n - 1) (W0 F n) i.toNatClampNeg (2 ^ n)), F) else (-3, S_fi F 4)) else (-1, F)
/-- those of days no later than one, of the first i -/
def tU (n : Nat) (q : Rq) (last : Int32) : Nat → Nat
  | 0 => 2 ^ n - 1
  | i + 1 => if last < q 1 i then dif (tU n q last i) (2 ^ i) else tU n q last i
theorem tU_lt (n : Nat) (q : Rq) (last : Int32) : ∀ i, tU n q last i < 2 ^ n
  | 0 => by
    have := Nat.two_pow_pos n
    unfold tU
    omega
  | i + 1 => by
    have := tU_lt n q last i
    unfold tU
    split
    · exact dif_le _ _ this
    · exact this
/-- ways of rulings of days no later than one -/
abbrev WU (n : Nat) (q : Rq) (last : Int32) : Nat → Bool := wayB n q (fun _ => 0) (tU n q last n)
def S_till (F : Nat → Nat → Int32) (day : Int32) : Int32 × (Nat → Nat → Int32) :=
  let n := (F 75 10).toNatClampNeg
  if 0 ≤ day ∧ day ≤ 9 then (nI (fa_cnt (WU n (mq F) day) (2 ^ n)), S_te F (frst n (WU n (mq F) day))) else (-1, F)
def isF (n : Nat) (q : Rq) (i : Nat) (day : Int32) : Int32 :=
  if (stS n (tU n q day n) (WU n q day)).testBit i then 1 else if (flS n (tU n q day n) (WU n q day)).testBit i then -1 else 0
def flp (f : Nat → Int32) (d0 : Nat) : Nat → Int32 × Int32
  | 0 => (0, 0)
  | k + 1 => ((flp f d0 k).1 + b2i (¬ f (d0 + k) = 0 ∧ ¬ (flp f d0 k).2 = 0 ∧ ¬ f (d0 + k) = (flp f d0 k).2), if f (d0 + k) = 0 then (flp f d0 k).2 else f (d0 + k))
def S_flips (F : Nat → Nat → Int32) (i : Int32) : Int32 × (Nat → Nat → Int32) :=
  let n := (F 75 10).toNatClampNeg
  let d0 := (F 83 i.toNatClampNeg).toNatClampNeg
  if 0 ≤ i ∧ i ≤ F 75 10 - 1 then ((flp (fun e => isF n (mq F) i.toNatClampNeg (nI e)) d0 (10 - d0)).1, F) else (-1, F)
def S_jam (F : Nat → Nat → Int32) : Int32 × (Nat → Nat → Int32) :=
  let n := (F 75 10).toNatClampNeg
  let p := fun e => decide (frst n (WU n (mq F) (nI e)) = -9)
  (if fa_first p 10 < 10 then nI (fa_first p 10) else -9, F)
section MT
variable {d L s : Nat} {xs : Nat → Int32} {J : Nat → Int64} {F : Nat → Nat → Int32} {K : mm_K} {h : mm_H} {n t : Nat} {sk : Nat → Nat}
theorem m_nth (hn : F 75 10 = nI n) (hc : Cw n (mq F)) {i : Int32} (hk : ∀ F', CE F' (S_nth F i).2 → K (some (.int (S_nth F i).1)) (hH L xs J s F')) : mm_call mm_Ex (d + 5) k_X6_nth [.ref 75, .int i] (hH L xs J s F) K := by
  have h9 := hc.1
  have hp9 := pw9 h9
  have en : (F 75 10).toNatClampNeg = n := by rw [hn]; exact tn_nI (by omega)
  have hx := Cx.all hn hc
  have hpw := pwI hx.1 h9
  unfold S_nth at hk
  dsimp only at hk
  rw [en] at hk
  obtain ⟨w, hw⟩ : ∃ w, w = W0 F n := ⟨_, rfl⟩
  rw [← hw] at hk
  have hw' : wayB n (mq F) (fun _ => 0) (2 ^ n - 1) = w := hw.symm
  refine mm_run 60 (And.intro (fun c => s_all hn h9 ?_) (fun c => ?_))
  · rw [if_pos c] at hk
    obtain ⟨p, hp'⟩ : ∃ p, p = fun S => w S && decide (nI (fa_cnt w S) = i) := ⟨_, rfl⟩
    rw [← hp'] at hk
    have hle := fa_first_le p (2 ^ n)
    refine lp (n := fa_first p (2 ^ n)) (P := fun S => ∀ x a, x = nI S → a = nI (0 + fa_cnt w S) → mm_Ex (d + 5) k_X6_nth 10 (0, 0) [.ref 75, .int i, .int a, .int x] [] (hH L xs J s (S_all F n)) K) ?_ ?_ 0 0 rfl rfl
    · intro x a hx1 ha
      subst hx1
      refine mm_run 60 (And.intro (fun q => ?_) (fun q => s_isWay hx.1 hx.2.1 hx.2.2.1 hx.t31 (by omega) ?_))
      · have q : (1 : Int32) <<< ((S_all F n) 75 10 &&& 31) ≤ nI _ := q
        rw [hpw] at q
        have q := (nI_leI (by omega) (by omega)).mp q
        rw [if_neg (by omega)] at hk
        exact s_finds (w := 4) (by decide) (hk _ (CE.all.fi 4))
      · have q : ¬ (1 : Int32) <<< ((S_all F n) 75 10 &&& 31) ≤ nI _ := q
        rw [hpw] at q
        have hlt : fa_first p (2 ^ n) < 2 ^ n := Nat.lt_of_not_le fun z => q ((nI_leI (by omega) (by omega)).mpr z)
        rw [if_pos hlt] at hk
        have hy := fa_first_yes p (2 ^ n) hlt
        have hy2 : (w (fa_first p (2 ^ n)) && decide (nI (fa_cnt w (fa_first p (2 ^ n))) = i)) = true := by rw [hp'] at hy ⊢; exact hy
        rw [Bool.and_eq_true, decide_eq_true_eq] at hy2
        rw [mq_all, hw', b2i_t hy2.1]
        refine And.intro (fun z => absurd z (by decide)) (fun _ => And.intro (fun z => absurd ?_ z) (fun _ => hk _ CE.all))
        rw [ha, Nat.zero_add]
        exact hy2.2
    · intro S hS ih x a hx1 ha
      subst hx1
      have hno := fa_first_no p (2 ^ n) S hS
      have hno2 : (w S && decide (nI (fa_cnt w S) = i)) = false := by rw [hp'] at hno; exact hno
      refine mm_run 60 (And.intro (fun q => ?_) (fun q => s_isWay hx.1 hx.2.1 hx.2.2.1 hx.t31 (by omega) ?_))
      · have q : (1 : Int32) <<< ((S_all F n) 75 10 &&& 31) ≤ nI S := q
        rw [hpw] at q
        exact absurd q (nleI (by omega) (by omega))
      · rw [mq_all, hw']
        have e1 : ∀ b : Bool, w S = b → mm_Ex (d + 5) k_X6_nth 26 (0, 0) [.ref 75, .int i, .int (a + b2i (b = true)), .int (nI S)] [] (hH L xs J s (S_all F n)) K := fun b hb => mm_run 60 (ih _ _ (nI_1 S) (by rw [ha, ← hb]; exact nI_b 0 w S))
        refine And.intro (fun q2 => ?_) (fun q2 => And.intro (fun q3 => ?_) (fun q3 => ?_))
        · rw [b2i_0] at q2
          have := e1 false (by simpa using q2)
          have ea : a + b2i (false = true) = a := Int32.add_zero a
          rw [ea] at this
          exact this
        · exact e1 true (b2i_p q2)
        · exfalso
          rw [b2i_p q2] at hno2
          rw [ha, Nat.zero_add] at q3
          simp [q3] at hno2
  · rw [if_neg c] at hk
    exact hk _ CE.rf
theorem m_together (hn : F 75 10 = nI n) (hc : Cw n (mq F)) {i : Int32} (hk : ∀ F', CE F' (S_together F i).2 → K (some (.int (S_together F i).1)) (hH L xs J s F')) : mm_call mm_Ex (d + 5) k_X6_together [.ref 75, .int i] (hH L xs J s F) K := by
  have h9 := hc.1
  have hp9 := pw9 h9
  have en : (F 75 10).toNatClampNeg = n := by rw [hn]; exact tn_nI (by omega)
  have hx := Cx.all hn hc
  have hpw := pwI hx.1 h9
  unfold S_together at hk
  dsimp only at hk
  rw [en] at hk
  obtain ⟨w, hw⟩ : ∃ w, w = W0 F n := ⟨_, rfl⟩
  rw [← hw] at hk
  have hw' : wayB n (mq F) (fun _ => 0) (2 ^ n - 1) = w := hw.symm
  refine mm_run 60 (s_isRuling (And.intro (fun c => s_all hn h9 ?_) (fun c => ?_)))
  · rw [if_pos (not_not_b c)] at hk
    have c2 := c
    rw [hn] at c2
    obtain ⟨j, hj, rfl⟩ := isRu_of h9 c2
    rw [tn_nI (by omega)] at hk
    refine lp (n := 2 ^ n) (P := fun S => ∀ x a b, x = nI S → a = nI (tgN (2 ^ n - 1) w j S) → b = b2i (anyB w S = true) → mm_Ex (d + 5) k_X6_together 15 (0, 0) [.ref 75, .int (nI j), .int a, .int b, .int x] [] (hH L xs J s (S_all F n)) K) ?_ ?_ 0 _ 0 rfl rfl rfl
    · intro x a b hx1 ha hb
      subst hx1
      refine mm_run 60 (And.intro (fun _ => And.intro (fun q => ?_) (fun q => ?_)) (fun q => absurd ?_ q))
      · rw [hb, b2i_0] at q
        rw [if_neg q] at hk
        exact s_finds (w := 4) (by decide) (mm_run 5 (hk _ (CE.all.fi 4)))
      · rw [hb] at q
        rw [if_pos (b2i_p q), ← ha] at hk
        exact mm_run 5 (hk _ CE.all)
      · show (1 : Int32) <<< ((S_all F n) 75 10 &&& 31) ≤ nI (2 ^ n)
        rw [hpw]
        exact (nI_leI (by omega) (by omega)).mpr (Nat.le_refl _)
    · intro S hS ih x a b hx1 ha hb
      subst hx1
      refine mm_run 60 (And.intro (fun q => ?_) (fun q => s_isWay hx.1 hx.2.1 hx.2.2.1 hx.t31 (by omega) ?_))
      · have q : (1 : Int32) <<< ((S_all F n) 75 10 &&& 31) ≤ nI S := q
        rw [hpw] at q
        exact absurd q (nleI hS (by omega))
      · rw [mq_all, hw']
        refine And.intro (fun q2 => ?_) (fun q2 => ?_)
        · rw [b2i_0] at q2
          refine mm_run 60 (ih _ _ _ (nI_1 S) ?_ ?_)
          · rw [ha, tgN, if_neg q2]
          · rw [hb, anyB]
            simp [q2]
        · have q2 := b2i_p q2
          have J37 : ∀ y, a &&& y = nI (tgN (2 ^ n - 1) w j (S + 1)) → mm_Ex (d + 5) k_X6_together 37 (0, 0) [.ref 75, .int (nI j), .int a, .int 1, .int (nI S)] [.int y, .int a] (hH L xs J s (S_all F n)) K := fun y hy => mm_run 60 (mm_run 60 (ih _ _ _ (nI_1 S) hy (by
            have : anyB w (S + 1) = true := by rw [anyB, q2]; simp
            rw [this]
            rfl)))
          refine s_hasN (by omega) (And.intro (fun q3 => J37 _ ?_) (fun q3 => J37 _ ?_))
          · rw [b2i_0] at q3
            rw [ha, tgN, if_pos q2, if_neg q3]
            exact difI _ _
          · rw [ha, tgN, if_pos q2, if_pos (b2i_p q3)]
            exact fa_and _ _
  · rw [if_neg (b2i_0.mp c)] at hk
    exact hk _ CE.rf
theorem s_upTo (hn : F 75 10 = nI n) (hc : Cw n (mq F)) {last : Int32} (hk : Cx (up2 (S_all F n) 75 19 (nI (tU n (mq F) last n))) n (tU n (mq F) last n) (fun _ => 0) → K none (hH L xs J s (up2 (S_all F n) 75 19 (nI (tU n (mq F) last n))))) : mm_call mm_Ex (d + 1) k_X6_upTo [.ref 75, .int last] (hH L xs J s F) K := by
  have h9 := hc.1
  have hp9 := pw9 h9
  have hx := Cx.all hn hc
  have hC : Cx (up2 (S_all F n) 75 19 (nI (tU n (mq F) last n))) n (tU n (mq F) last n) (fun _ => 0) := by
    refine ⟨hn, by rw [mq_75, mq_all]; exact hc, ⟨rfl, hx.2.2.1.2⟩, tU_lt _ _ _ _⟩
  have e19 : ∀ a b : Int32, up2 (up2 (S_all F n) 75 19 a) 75 19 b = up2 (S_all F n) 75 19 b := by
    intro a b
    unfold up2
    rw [upF_same]
    congr 1
    exact fa_upd_twice _ _ _ _
  refine mm_run 60 (s_all hn h9 ?_)
  refine lp (n := n) (P := fun i => ∀ x h, x = nI i → h = hH L xs J s (up2 (S_all F n) 75 19 (nI (tU n (mq F) last i))) → mm_Ex (d + 1) k_X6_upTo 4 (0, 0) [.ref 75, .int last, .int x] [] h K) ?_ ?_ 0 _ rfl ?_
  · intro x h hx1 hh
    subst hx1 hh
    refine mm_run 60 (And.intro (fun _ => hk hC) (fun q => absurd ?_ q))
    show F 75 10 ≤ nI n
    rw [hn]
    exact (nI_leI (by omega) (by omega)).mpr (Nat.le_refl n)
  · intro i hi ih x h hx1 hh
    subst hx1 hh
    have ei : (nI i).toNatClampNeg = i := tn_nI (by omega)
    have hv : vp_in (nI i) 9 := vp_in_nI (by omega) (by decide)
    have J25 : ∀ y, nI (tU n (mq F) last i) &&& y = nI (tU n (mq F) last (i + 1)) → mm_Ex (d + 1) k_X6_upTo 25 (0, 0) [.ref 75, .int last, .int (nI i)] [.int y, .int (nI (tU n (mq F) last i)), .ref 75] (hH L xs J s (up2 (S_all F n) 75 19 (nI (tU n (mq F) last i)))) K := fun y hy => by
      refine mm_run 60 (ih _ _ (nI_1 i) ?_)
      refine (hp1 (g := upd ((up2 (S_all F n) 75 19 (nI (tU n (mq F) last i))) 75) 19 (nI (tU n (mq F) last i) &&& y)) rfl).trans (hHx fun z => ?_)
      rw [hy]
      exact congrFun (e19 _ _) z
    refine mm_run 60 (And.intro (fun q => ?_) (fun q => ⟨hv, And.intro (fun q2 => J25 _ ?_) (fun q2 => J25 _ ?_)⟩))
    · have q : F 75 10 ≤ nI i := q
      rw [hn] at q
      exact absurd q (nleI hi (by omega))
    · have q2 : F 83 (nI i).toNatClampNeg ≤ last := q2
      rw [ei] at q2
      have q3 : ¬ last < mq F 1 i := Int32.not_lt.mpr q2
      rw [tU, if_neg q3]
      show nI _ &&& nI (tU n (mq F) last i) = _
      rw [fa_and, Nat.and_self]
    · have q2 : ¬ F 83 (nI i).toNatClampNeg ≤ last := q2
      rw [ei] at q2
      have q3 : last < mq F 1 i := Int32.not_le.mp q2
      rw [tU, if_pos q3, shl1 (by omega)]
      exact difI _ _
  · refine hHx fun z => ?_
    have e : (S_all F n) 75 19 = nI (tU n (mq F) last 0) := rfl
    rw [← e]
    have e2 : up2 (S_all F n) 75 19 ((S_all F n) 75 19) = S_all F n := by
      unfold up2
      rw [fa_upd_same rfl, upF_id]
    rw [e2]
theorem CE.up19 {F : Nat → Nat → Int32} {n : Nat} {x : Int32} : CE (up2 (S_all F n) 75 19 x) F := (CE.up (by decide)).trans CE.all
theorem m_till (hn : F 75 10 = nI n) (hc : Cw n (mq F)) {day : Int32} (hk : ∀ F', CE F' (S_till F day).2 → K (some (.int (S_till F day).1)) (hH L xs J s F')) : mm_call mm_Ex (d + 5) k_X6_till [.ref 75, .int day] (hH L xs J s F) K := by
  have h9 := hc.1
  have en : (F 75 10).toNatClampNeg = n := by rw [hn]; exact tn_nI (by omega)
  unfold S_till at hk
  dsimp only at hk
  rw [en] at hk
  refine mm_run 60 (s_in (And.intro (fun c => s_upTo hn hc fun hx => s_firstWay hx.1 hx.2.1 hx.2.2.1 hx.t31 ?_) (fun c => ?_)))
  · rw [if_pos (not_not_b c)] at hk
    rw [mq_75, mq_all]
    have hx2 := hx.up (j := 7) (x := frst n (WU n (mq F) day)) (by decide) (by decide)
    refine kc (hp1 (g := upd ((up2 (S_all F n) 75 19 (nI (tU n (mq F) day n))) 75) 7 (frst n (WU n (mq F) day))) rfl) (s_wayMany hx2.1 hx2.2.1 hx2.2.2.1 hx2.t31 ?_)
    have hm2 : mq (upF (up2 (S_all F n) 75 19 (nI (tU n (mq F) day n))) 75 (upd ((up2 (S_all F n) 75 19 (nI (tU n (mq F) day n))) 75) 7 (frst n (WU n (mq F) day)))) = mq F := by rw [mq_up (by decide), mq_75, mq_all]
    rw [hm2]
    exact hk _ (CE.up19.set 7 _)
  · rw [if_neg (b2i_0.mp c)] at hk
    exact hk _ CE.rf
end MT
end
section
/-! the reference: flips, jam, mark, due -/
theorem CE.nn {F G : Nat → Nat → Int32} (h : CE F G) : F 75 10 = G 75 10 := h.2 10 (by decide) (by decide) (by decide) (by decide) (by decide)
theorem CE.mq {F G : Nat → Nat → Int32} (h : CE F G) : mq F = mq G := mq_c fun k h1 h2 => h.1 k (by omega) (by omega) (by omega) (by omega) (by omega)
def S_mark (F : Nat → Nat → Int32) (i kind : Int32) : Int32 × (Nat → Nat → Int32) :=
  let n := (F 75 10).toNatClampNeg
  if (0 ≤ i ∧ i ≤ F 75 10 - 1) ∧ (1 ≤ kind ∧ kind ≤ 5) then
    (if isOfB (mq F 0 i.toNatClampNeg) kind = true then
      ((if kind = 5 then nI (fa_cnt (fun S => S.testBit i.toNatClampNeg && W0 F n S) (2 ^ n)) else if kind = 1 then nI (depN (mq F) n (mq F 3 i.toNatClampNeg)) else if kind = 2 then nI (citeN n (mq F) i (-1)) else if kind = 3 then nI (citeN n (mq F) i 1) else nI (dayN n (mq F) i.toNatClampNeg)), F)
    else (-3, S_fi F 3)) else (-1, F)
def S_due (F : Nat → Nat → Int32) (S : Int32) : Int32 × (Nat → Nat → Int32) :=
  let n := (F 75 10).toNatClampNeg
  if 0 ≤ S ∧ S ≤ (1 : Int32) <<< (F 75 10 &&& 31) - 1 then (nI (dueS n (mq F) (fun _ => 0) (2 ^ n - 1) S.toNatClampNeg), F) else (-1, F)
theorem set_of {S : Int32} {n : Nat} (h9 : n ≤ 9) (c : 0 ≤ S ∧ S ≤ (1 : Int32) <<< (nI n &&& 31) - 1) : ∃ j, j < 2 ^ n ∧ S = nI j := by
  have hp9 := pw9 h9
  rw [all_I h9] at c
  obtain ⟨j, h1, h2⟩ := in_nI (by omega) c.1 c.2
  have := Nat.two_pow_pos n
  exact ⟨j, by omega, h2⟩
section MF
variable {d L s : Nat} {xs : Nat → Int32} {J : Nat → Int64} {F : Nat → Nat → Int32} {K : mm_K} {h : mm_H} {n t : Nat} {sk : Nat → Nat}
theorem m_due (hn : F 75 10 = nI n) (hc : Cw n (mq F)) {S : Int32} (hk : ∀ F', CE F' (S_due F S).2 → K (some (.int (S_due F S).1)) (hH L xs J s F')) : mm_call mm_Ex (d + 5) k_X6_due [.ref 75, .int S] (hH L xs J s F) K := by
  have h9 := hc.1
  have hp9 := pw9 h9
  have en : (F 75 10).toNatClampNeg = n := by rw [hn]; exact tn_nI (by omega)
  have hx := Cx.all hn hc
  unfold S_due at hk
  dsimp only at hk
  rw [en] at hk
  refine mm_run 60 (s_isSet (And.intro (fun c => s_all hn h9 ?_) (fun c => ?_)))
  · have c := not_not_b c
    rw [if_pos c] at hk
    rw [hn] at c
    obtain ⟨j, hj, rfl⟩ := set_of h9 c
    rw [tn_nI (by omega)] at hk
    refine s_dueBy hx.1 hx.2.1 hx.2.2.1 ?_
    rw [mq_all]
    exact hk _ CE.all
  · rw [if_neg (b2i_0.mp c)] at hk
    exact hk _ CE.rf
theorem m_mark (hn : F 75 10 = nI n) (hc : Cw n (mq F)) {i kind : Int32} (hk : ∀ F', CE F' (S_mark F i kind).2 → K (some (.int (S_mark F i kind).1)) (hH L xs J s F')) : mm_call mm_Ex (d + 5) k_X6_mark [.ref 75, .int i, .int kind] (hH L xs J s F) K := by
  have h9 := hc.1
  have hp9 := pw9 h9
  have en : (F 75 10).toNatClampNeg = n := by rw [hn]; exact tn_nI (by omega)
  have hx := Cx.all hn hc
  unfold S_mark at hk
  dsimp only at hk
  rw [en] at hk
  have B : ¬ ((0 ≤ i ∧ i ≤ F 75 10 - 1) ∧ (1 ≤ kind ∧ kind ≤ 5)) → mm_Ex (d + 5) k_X6_mark 9 (0, 0) [.ref 75, .int i, .int kind] [] (hH L xs J s F) K := by
    intro c
    rw [if_neg c] at hk
    exact mm_run 5 (hk _ CE.rf)
  refine mm_run 60 (s_isRuling (And.intro (fun c => B fun q => b2i_0.mp c q.1) (fun c => s_in (And.intro (fun c2 => ⟨vpi hn h9 c, s_isOf (And.intro (fun c3 => ?_) (fun c3 => ?_))⟩) (fun c2 => B fun q => b2i_0.mp c2 q.2)))))
  · have c3' : isOfB (mq F 0 i.toNatClampNeg) kind = true := b2i_p c3
    rw [if_pos ⟨not_not_b c, not_not_b c2⟩, if_pos c3'] at hk
    rw [hn] at c
    obtain ⟨j, hj, rfl⟩ := isRu_of h9 c
    rw [tn_nI (by omega)] at hk
    refine And.intro (fun k5 => ?_) (fun k5 => s_all hn h9 (s_standsIn hx.1 hx.2.1 hx.2.2.1 hx.t31 hj ?_))
    · rw [if_neg k5] at hk
      refine And.intro (fun k1 => ?_) (fun k1 => s_depends hc hj (mm_run 5 ?_))
      · rw [if_neg k1] at hk
        refine And.intro (fun k2 => ?_) (fun k2 => s_citing hn h9 (mm_run 5 ?_))
        · rw [if_neg k2] at hk
          refine And.intro (fun k3 => s_ofItsDay hn h9 hj (mm_run 5 ?_)) (fun k3 => s_citing hn h9 (mm_run 5 ?_))
          · rw [if_neg k3] at hk
            exact hk _ CE.rf
          · rw [if_pos (k3)] at hk
            exact hk _ CE.rf
        · rw [if_pos (k2)] at hk
          exact hk _ CE.rf
      · rw [if_pos (k1)] at hk
        exact hk _ CE.rf
    · rw [if_pos (k5)] at hk
      rw [mq_all]
      exact hk _ CE.all
  · have c3' : ¬ isOfB (mq F 0 i.toNatClampNeg) kind = true := b2i_0.mp c3
    rw [if_pos ⟨not_not_b c, not_not_b c2⟩, if_neg c3'] at hk
    exact s_finds (w := 3) (by decide) (hk _ CE.rf)
theorem m_jam (hn : F 75 10 = nI n) (hc : Cw n (mq F)) (hk : ∀ F', CE F' (S_jam F).2 → K (some (.int (S_jam F).1)) (hH L xs J s F')) : mm_call mm_Ex (d + 5) k_X6_jam [.ref 75] (hH L xs J s F) K := by
  have h9 := hc.1
  have hp9 := pw9 h9
  have en : (F 75 10).toNatClampNeg = n := by rw [hn]; exact tn_nI (by omega)
  unfold S_jam at hk
  dsimp only at hk
  rw [en] at hk
  obtain ⟨p, hp'⟩ : ∃ p : Nat → Bool, p = fun e => decide (frst n (WU n (mq F) (nI e)) = -9) := ⟨_, rfl⟩
  rw [← hp'] at hk
  have hle := fa_first_le p 10
  refine mm_run 60 (lp (n := fa_first p 10) (P := fun e => ∀ x Fc, x = nI e → CE Fc F → mm_Ex (d + 5) k_X6_jam 2 (0, 0) [.ref 75, .int x] [] (hH L xs J s Fc) K) ?_ ?_ 0 _ rfl CE.rf)
  · intro x Fc hx1 hce
    subst hx1
    refine mm_run 60 (And.intro (fun q => ?_) (fun q => s_upTo (n := n) (hce.nn.trans hn) (by rw [hce.mq]; exact hc) fun hx => s_firstWay hx.1 hx.2.1 hx.2.2.1 hx.t31 ?_))
    · have q := (nI_leI (a := 10) (by decide) (by omega)).mp q
      rw [if_neg (by omega)] at hk
      exact hk _ hce
    · have hlt : fa_first p 10 < 10 := Nat.lt_of_not_le fun z => q ((nI_leI (a := 10) (by decide) (by omega)).mpr z)
      have hy := fa_first_yes p 10 hlt
      rw [if_pos hlt] at hk
      rw [mq_75, mq_all, hce.mq]
      refine And.intro (fun q2 => absurd ?_ q2) (fun _ => hk _ (CE.up19.trans hce))
      rw [hp'] at hy ⊢
      simpa using hy
  · intro e he ih x Fc hx1 hce
    subst hx1
    have hno := fa_first_no p 10 e he
    refine mm_run 60 (And.intro (fun q => absurd q (nleI (b := 10) (by omega) (by decide))) (fun q => s_upTo (n := n) (hce.nn.trans hn) (by rw [hce.mq]; exact hc) fun hx => s_firstWay hx.1 hx.2.1 hx.2.2.1 hx.t31 ?_))
    rw [mq_75, mq_all, hce.mq]
    refine And.intro (fun q2 => ih _ _ (nI_1 e) (CE.up19.trans hce)) (fun q2 => ?_)
    exfalso
    rw [hp'] at hno
    have hno : ¬ frst n (WU n (mq F) (nI e)) = -9 := by simpa using hno
    exact hno q2
theorem m_flips (hn : F 75 10 = nI n) (hc : Cw n (mq F)) {i : Int32} (hk : ∀ F', CE F' (S_flips F i).2 → K (some (.int (S_flips F i).1)) (hH L xs J s F')) : mm_call mm_Ex (d + 5) k_X6_flips [.ref 75, .int i] (hH L xs J s F) K := by
  have h9 := hc.1
  have hp9 := pw9 h9
  have en : (F 75 10).toNatClampNeg = n := by rw [hn]; exact tn_nI (by omega)
  unfold S_flips at hk
  dsimp only at hk
  rw [en] at hk
  refine mm_run 60 (s_isRuling (And.intro (fun c => ⟨vpi hn h9 c, ?_⟩) (fun c => ?_)))
  · rw [if_pos (not_not_b c)] at hk
    rw [hn] at c
    obtain ⟨j, hj, rfl⟩ := isRu_of h9 c
    rw [tn_nI (by omega)] at hk
    obtain ⟨dd, hdd, edd⟩ := (hc.2 j hj).2.1
    have edd : F 83 j = nI dd := edd
    rw [edd, tn_nI (by omega)] at hk
    obtain ⟨f, hf⟩ : ∃ f : Nat → Int32, f = fun e => isF n (mq F) j (nI e) := ⟨_, rfl⟩
    rw [← hf] at hk
    refine lp (n := 10 - dd) (P := fun e => ∀ (x a b : Int32) (w : Value) Fc, x = nI (dd + e) → a = (flp f dd e).1 → b = (flp f dd e).2 → CE Fc F → mm_Ex (d + 5) k_X6_flips 15 (0, 0) [.ref 75, .int (nI j), .int a, .int b, .int x, w] [] (hH L xs J s Fc) K) ?_ ?_ _ _ _ _ _ ?_ rfl rfl CE.rf
    · intro x a b w Fc hx1 ha hb hce
      subst hx1
      refine mm_run 60 (And.intro (fun _ => ?_) (fun q => absurd ((nI_leI (a := 10) (by decide) (by omega)).mpr (by omega)) q))
      rw [ha]
      exact hk _ hce
    · intro e he ih x a b w Fc hx1 ha hb hce
      subst hx1
      refine mm_run 60 (And.intro (fun q => absurd q (nleI (b := 10) (by omega) (by decide))) (fun q => s_upTo (n := n) (hce.nn.trans hn) (by rw [hce.mq]; exact hc) fun hx => s_findsSure hx ?_))
      obtain ⟨st, hst⟩ : ∃ st, st = stS n (tU n (mq F) (nI (dd + e)) n) (WU n (mq F) (nI (dd + e))) := ⟨_, rfl⟩
      obtain ⟨fl, hfl⟩ : ∃ fl, fl = flS n (tU n (mq F) (nI (dd + e)) n) (WU n (mq F) (nI (dd + e))) := ⟨_, rfl⟩
      rw [mq_75, mq_all, hce.mq]
      have hst' : stS n (tU n (mq F) (nI (dd + e)) n) (wayB n (mq F) (fun _ => 0) (tU n (mq F) (nI (dd + e)) n)) = st := hst.symm
      have hfl' : flS n (tU n (mq F) (nI (dd + e)) n) (wayB n (mq F) (fun _ => 0) (tU n (mq F) (nI (dd + e)) n)) = fl := hfl.symm
      rw [hst', hfl']
      obtain ⟨Fd, hFd⟩ : ∃ Fd, Fd = up2 (up2 (up2 (S_all Fc n) 75 19 (nI (tU n (mq F) (nI (dd + e)) n))) 75 25 (nI st)) 75 26 (nI fl) := ⟨_, rfl⟩
      have hcd : CE Fd F := by
        rw [hFd]
        exact (CE.up (by decide)).trans ((CE.up (by decide)).trans (CE.up19.trans hce))
      have e25 : Fd 75 25 = nI st := by rw [hFd]; rfl
      have e26 : Fd 75 26 = nI fl := by rw [hFd]; rfl
      rw [← hFd]
      have efe : f (dd + e) = if st.testBit j then 1 else if fl.testBit j then -1 else 0 := by rw [hf, hst, hfl]; rfl
      have J38 : ∀ y, y = f (dd + e) → mm_Ex (d + 5) k_X6_flips 38 (0, 0) [.ref 75, .int (nI j), .int a, .int b, .int (nI (dd + e)), w] [.int y] (hH L xs J s Fd) K := by
        intro y hy
        subst hy
        have J57 : ∀ z1 z2, z1 = (flp f dd (e + 1)).1 → z2 = (flp f dd (e + 1)).2 → mm_Ex (d + 5) k_X6_flips 57 (0, 0) [.ref 75, .int (nI j), .int z1, .int b, .int (nI (dd + e)), .int (f (dd + e))] [.int z2] (hH L xs J s Fd) K := fun z1 z2 h1 h2 => mm_run 60 (ih _ _ _ _ _ (nI_1 (dd + e)) h1 h2 hcd)
        have J50 : ∀ z, z = b2i (¬ f (dd + e) = 0 ∧ ¬ (flp f dd e).2 = 0 ∧ ¬ f (dd + e) = (flp f dd e).2) → mm_Ex (d + 5) k_X6_flips 50 (0, 0) [.ref 75, .int (nI j), .int a, .int b, .int (nI (dd + e)), .int (f (dd + e))] [.int z, .int a] (hH L xs J s Fd) K := fun z hz => by
          have e1 : a + z = (flp f dd (e + 1)).1 := by
            rw [ha, hz]
            rfl
          refine mm_run 60 (And.intro (fun q2 => J57 _ _ e1 ?_) (fun q2 => J57 _ _ e1 ?_))
          · show f (dd + e) = if f (dd + e) = 0 then _ else f (dd + e)
            rw [if_neg q2]
          · show b = if f (dd + e) = 0 then (flp f dd e).2 else f (dd + e)
            rw [if_pos (q2), hb]
        have J49 : ¬ (¬ f (dd + e) = 0 ∧ ¬ (flp f dd e).2 = 0 ∧ ¬ f (dd + e) = (flp f dd e).2) → mm_Ex (d + 5) k_X6_flips 49 (0, 0) [.ref 75, .int (nI j), .int a, .int b, .int (nI (dd + e)), .int (f (dd + e))] [.int a] (hH L xs J s Fd) K := fun q => mm_run 5 (J50 0 (b2i_f q).symm)
        refine mm_run 60 (And.intro (fun q2 => J49 fun z => z.1 q2) (fun q2 => And.intro (fun q3 => J49 fun z => z.2.1 (hb ▸ q3)) (fun q3 => And.intro (fun q4 => J49 fun z => z.2.2 (hb ▸ q4)) (fun q4 => J50 1 (b2i_t ⟨q2, hb ▸ q3, hb ▸ q4⟩).symm))))
      show mm_call mm_Ex (d + 4) k_X6_has [.int (Fd 75 25), .int (nI j)] _ _
      rw [e25]
      refine s_hasN (by omega) (And.intro (fun q2 => ?_) (fun q2 => J38 1 ?_))
      · rw [b2i_0] at q2
        show mm_call mm_Ex (d + 4) k_X6_has [.int (Fd 75 26), .int (nI j)] _ _
        rw [e26]
        refine s_hasN (by omega) (And.intro (fun q3 => J38 0 ?_) (fun q3 => J38 (-1) ?_))
        · rw [b2i_0] at q3
          rw [efe, if_neg q2, if_neg q3]
        · rw [efe, if_neg q2, if_pos (b2i_p q3)]
      · rw [efe, if_pos (b2i_p q2)]
    · show F 83 (nI j).toNatClampNeg = nI (dd + 0)
      rw [tn_nI (by omega)]
      exact edd
  · rw [if_neg (b2i_0.mp c)] at hk
    exact hk _ CE.rf
end MF
end
