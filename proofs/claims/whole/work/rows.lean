section
/-- a private method of a class that the tables say can be made, by its rows of tables_1 -/
def lw_okq (q : MethodName × Nat) : Prop := (q.1.cls ≠ "java/lang/invoke/MethodHandle" ∧ q.1.cls ≠ "java/lang/invoke/VarHandle") ∧ Cond.instantiable q.1.cls q.2 ∈ tables_1 ∧ Cond.privateMethod q.1 ∈ tables_1 ∧ Cond.instanceMethod q.1 ∈ tables_1
theorem lw_p0 : lw_okq (⟨"BackCourt", "renewed", "([LBackCourt$Row;III)I"⟩, 13) := ⟨⟨by decide +kernel, by decide +kernel⟩, List.mem_of_getElem? (i := 12) (by decide +kernel), List.mem_of_getElem? (i := 206) (by decide +kernel), List.mem_of_getElem? (i := 207) (by decide +kernel)⟩
theorem lw_p1 : lw_okq (⟨"BackCourt", "refuse", "(I)I"⟩, 13) := ⟨⟨by decide +kernel, by decide +kernel⟩, List.mem_of_getElem? (i := 12) (by decide +kernel), List.mem_of_getElem? (i := 213) (by decide +kernel), List.mem_of_getElem? (i := 214) (by decide +kernel)⟩
theorem lw_p2 : lw_okq (⟨"BackCourt", "refusalOfPlace", "(LBackCourt$Row;I)I"⟩, 13) := ⟨⟨by decide +kernel, by decide +kernel⟩, List.mem_of_getElem? (i := 12) (by decide +kernel), List.mem_of_getElem? (i := 228) (by decide +kernel), List.mem_of_getElem? (i := 229) (by decide +kernel)⟩
theorem lw_p3 : lw_okq (⟨"BackCourt", "tell", "(I)I"⟩, 13) := ⟨⟨by decide +kernel, by decide +kernel⟩, List.mem_of_getElem? (i := 12) (by decide +kernel), List.mem_of_getElem? (i := 250) (by decide +kernel), List.mem_of_getElem? (i := 251) (by decide +kernel)⟩
theorem lw_p4 : lw_okq (⟨"BackCourt$Reader", "skipBlanks", "()V"⟩, 3) := ⟨⟨by decide +kernel, by decide +kernel⟩, List.mem_of_getElem? (i := 63) (by decide +kernel), List.mem_of_getElem? (i := 307) (by decide +kernel), List.mem_of_getElem? (i := 308) (by decide +kernel)⟩
theorem lw_p5 : lw_okq (⟨"BackCourt$Reader", "readItem", "()Z"⟩, 3) := ⟨⟨by decide +kernel, by decide +kernel⟩, List.mem_of_getElem? (i := 63) (by decide +kernel), List.mem_of_getElem? (i := 312) (by decide +kernel), List.mem_of_getElem? (i := 313) (by decide +kernel)⟩
theorem lw_p6 : lw_okq (⟨"BackCourt$Reader", "letter", "()I"⟩, 3) := ⟨⟨by decide +kernel, by decide +kernel⟩, List.mem_of_getElem? (i := 63) (by decide +kernel), List.mem_of_getElem? (i := 316) (by decide +kernel), List.mem_of_getElem? (i := 317) (by decide +kernel)⟩
theorem lw_p7 : lw_okq (⟨"BackCourt$Reader", "sign", "()I"⟩, 3) := ⟨⟨by decide +kernel, by decide +kernel⟩, List.mem_of_getElem? (i := 63) (by decide +kernel), List.mem_of_getElem? (i := 320) (by decide +kernel), List.mem_of_getElem? (i := 321) (by decide +kernel)⟩
theorem lw_p8 : lw_okq (⟨"BackCourt$Reader", "figure", "()I"⟩, 3) := ⟨⟨by decide +kernel, by decide +kernel⟩, List.mem_of_getElem? (i := 63) (by decide +kernel), List.mem_of_getElem? (i := 326) (by decide +kernel), List.mem_of_getElem? (i := 327) (by decide +kernel)⟩
theorem lw_p9 : lw_okq (⟨"BackCourt$Reader", "readMarks", "()I"⟩, 3) := ⟨⟨by decide +kernel, by decide +kernel⟩, List.mem_of_getElem? (i := 63) (by decide +kernel), List.mem_of_getElem? (i := 339) (by decide +kernel), List.mem_of_getElem? (i := 340) (by decide +kernel)⟩
theorem lw_p10 : lw_okq (⟨"BackCourt", "findWays", "(I)V"⟩, 13) := ⟨⟨by decide +kernel, by decide +kernel⟩, List.mem_of_getElem? (i := 12) (by decide +kernel), List.mem_of_getElem? (i := 397) (by decide +kernel), List.mem_of_getElem? (i := 398) (by decide +kernel)⟩
theorem lw_p11 : lw_okq (⟨"BackCourt$Bench", "mattersTo", "(I)I"⟩, 8) := ⟨⟨by decide +kernel, by decide +kernel⟩, List.mem_of_getElem? (i := 101) (by decide +kernel), List.mem_of_getElem? (i := 423) (by decide +kernel), List.mem_of_getElem? (i := 424) (by decide +kernel)⟩
theorem lw_p12 : lw_okq (⟨"BackCourt", "isKept", "(I)Z"⟩, 13) := ⟨⟨by decide +kernel, by decide +kernel⟩, List.mem_of_getElem? (i := 12) (by decide +kernel), List.mem_of_getElem? (i := 458) (by decide +kernel), List.mem_of_getElem? (i := 459) (by decide +kernel)⟩
theorem lw_p13 : lw_okq (⟨"BackCourt", "fewest", "(III)I"⟩, 13) := ⟨⟨by decide +kernel, by decide +kernel⟩, List.mem_of_getElem? (i := 12) (by decide +kernel), List.mem_of_getElem? (i := 527) (by decide +kernel), List.mem_of_getElem? (i := 528) (by decide +kernel)⟩
theorem lw_p14 : lw_okq (⟨"BackCourt", "canReach", "(IIII)Z"⟩, 13) := ⟨⟨by decide +kernel, by decide +kernel⟩, List.mem_of_getElem? (i := 12) (by decide +kernel), List.mem_of_getElem? (i := 531) (by decide +kernel), List.mem_of_getElem? (i := 532) (by decide +kernel)⟩
theorem lw_p15 : lw_okq (⟨"BackCourt", "changedWithout", "(I)I"⟩, 13) := ⟨⟨by decide +kernel, by decide +kernel⟩, List.mem_of_getElem? (i := 12) (by decide +kernel), List.mem_of_getElem? (i := 558) (by decide +kernel), List.mem_of_getElem? (i := 559) (by decide +kernel)⟩
def lw_privs_1 : List (MethodName × Nat) := [(⟨"BackCourt", "renewed", "([LBackCourt$Row;III)I"⟩, 13), (⟨"BackCourt", "refuse", "(I)I"⟩, 13), (⟨"BackCourt", "refusalOfPlace", "(LBackCourt$Row;I)I"⟩, 13), (⟨"BackCourt", "tell", "(I)I"⟩, 13), (⟨"BackCourt$Reader", "skipBlanks", "()V"⟩, 3), (⟨"BackCourt$Reader", "readItem", "()Z"⟩, 3), (⟨"BackCourt$Reader", "letter", "()I"⟩, 3), (⟨"BackCourt$Reader", "sign", "()I"⟩, 3), (⟨"BackCourt$Reader", "figure", "()I"⟩, 3), (⟨"BackCourt$Reader", "readMarks", "()I"⟩, 3), (⟨"BackCourt", "findWays", "(I)V"⟩, 13), (⟨"BackCourt$Bench", "mattersTo", "(I)I"⟩, 8), (⟨"BackCourt", "isKept", "(I)Z"⟩, 13), (⟨"BackCourt", "fewest", "(III)I"⟩, 13), (⟨"BackCourt", "canReach", "(IIII)Z"⟩, 13), (⟨"BackCourt", "changedWithout", "(I)I"⟩, 13)]
theorem lw_r1 : ∀ q ∈ lw_privs_1, lw_okq q := List.forall_mem_cons.mpr ⟨lw_p0, List.forall_mem_cons.mpr ⟨lw_p1, List.forall_mem_cons.mpr ⟨lw_p2, List.forall_mem_cons.mpr ⟨lw_p3, List.forall_mem_cons.mpr ⟨lw_p4, List.forall_mem_cons.mpr ⟨lw_p5, List.forall_mem_cons.mpr ⟨lw_p6, List.forall_mem_cons.mpr ⟨lw_p7, List.forall_mem_cons.mpr ⟨lw_p8, List.forall_mem_cons.mpr ⟨lw_p9, List.forall_mem_cons.mpr ⟨lw_p10, List.forall_mem_cons.mpr ⟨lw_p11, List.forall_mem_cons.mpr ⟨lw_p12, List.forall_mem_cons.mpr ⟨lw_p13, List.forall_mem_cons.mpr ⟨lw_p14, List.forall_mem_cons.mpr ⟨lw_p15, fun _ h => absurd h List.not_mem_nil⟩⟩⟩⟩⟩⟩⟩⟩⟩⟩⟩⟩⟩⟩⟩⟩
theorem lw_p16 : lw_okq (⟨"BackCourt", "fileByLot", "(I)V"⟩, 13) := ⟨⟨by decide +kernel, by decide +kernel⟩, List.mem_of_getElem? (i := 12) (by decide +kernel), List.mem_of_getElem? (i := 631) (by decide +kernel), List.mem_of_getElem? (i := 632) (by decide +kernel)⟩
theorem lw_p17 : lw_okq (⟨"BackCourt", "countOf", "(I)I"⟩, 13) := ⟨⟨by decide +kernel, by decide +kernel⟩, List.mem_of_getElem? (i := 12) (by decide +kernel), List.mem_of_getElem? (i := 656) (by decide +kernel), List.mem_of_getElem? (i := 657) (by decide +kernel)⟩
theorem lw_p18 : lw_okq (⟨"BackCourtModel", "finds", "(I)I"⟩, 27) := ⟨⟨by decide +kernel, by decide +kernel⟩, List.mem_of_getElem? (i := 687) (by decide +kernel), List.mem_of_getElem? (i := 785) (by decide +kernel), List.mem_of_getElem? (i := 786) (by decide +kernel)⟩
theorem lw_p19 : lw_okq (⟨"BackCourtModel", "tells", "(I)I"⟩, 27) := ⟨⟨by decide +kernel, by decide +kernel⟩, List.mem_of_getElem? (i := 687) (by decide +kernel), List.mem_of_getElem? (i := 793) (by decide +kernel), List.mem_of_getElem? (i := 794) (by decide +kernel)⟩
theorem lw_p20 : lw_okq (⟨"BackCourtModel", "isPart", "(III)Z"⟩, 27) := ⟨⟨by decide +kernel, by decide +kernel⟩, List.mem_of_getElem? (i := 687) (by decide +kernel), List.mem_of_getElem? (i := 809) (by decide +kernel), List.mem_of_getElem? (i := 810) (by decide +kernel)⟩
theorem lw_p21 : lw_okq (⟨"BackCourtModel", "reads", "(IZ)I"⟩, 27) := ⟨⟨by decide +kernel, by decide +kernel⟩, List.mem_of_getElem? (i := 687) (by decide +kernel), List.mem_of_getElem? (i := 832) (by decide +kernel), List.mem_of_getElem? (i := 833) (by decide +kernel)⟩
theorem lw_p22 : lw_okq (⟨"BackCourtModel", "byteAt", "(II)I"⟩, 27) := ⟨⟨by decide +kernel, by decide +kernel⟩, List.mem_of_getElem? (i := 687) (by decide +kernel), List.mem_of_getElem? (i := 836) (by decide +kernel), List.mem_of_getElem? (i := 837) (by decide +kernel)⟩
theorem lw_p23 : lw_okq (⟨"BackCourtModel", "readsItem", "(III)V"⟩, 27) := ⟨⟨by decide +kernel, by decide +kernel⟩, List.mem_of_getElem? (i := 687) (by decide +kernel), List.mem_of_getElem? (i := 840) (by decide +kernel), List.mem_of_getElem? (i := 841) (by decide +kernel)⟩
theorem lw_p24 : lw_okq (⟨"BackCourtModel", "figure", "(III)I"⟩, 27) := ⟨⟨by decide +kernel, by decide +kernel⟩, List.mem_of_getElem? (i := 687) (by decide +kernel), List.mem_of_getElem? (i := 847) (by decide +kernel), List.mem_of_getElem? (i := 848) (by decide +kernel)⟩
theorem lw_p25 : lw_okq (⟨"BackCourtModel", "faults", "(I)V"⟩, 27) := ⟨⟨by decide +kernel, by decide +kernel⟩, List.mem_of_getElem? (i := 687) (by decide +kernel), List.mem_of_getElem? (i := 851) (by decide +kernel), List.mem_of_getElem? (i := 852) (by decide +kernel)⟩
theorem lw_p26 : lw_okq (⟨"BackCourtModel", "readsCitation", "(III)V"⟩, 27) := ⟨⟨by decide +kernel, by decide +kernel⟩, List.mem_of_getElem? (i := 687) (by decide +kernel), List.mem_of_getElem? (i := 855) (by decide +kernel), List.mem_of_getElem? (i := 856) (by decide +kernel)⟩
theorem lw_p27 : lw_okq (⟨"BackCourtModel", "adds", "(IIIIII)V"⟩, 27) := ⟨⟨by decide +kernel, by decide +kernel⟩, List.mem_of_getElem? (i := 687) (by decide +kernel), List.mem_of_getElem? (i := 859) (by decide +kernel), List.mem_of_getElem? (i := 860) (by decide +kernel)⟩
theorem lw_p28 : lw_okq (⟨"BackCourtModel", "isRuling", "(I)Z"⟩, 27) := ⟨⟨by decide +kernel, by decide +kernel⟩, List.mem_of_getElem? (i := 687) (by decide +kernel), List.mem_of_getElem? (i := 871) (by decide +kernel), List.mem_of_getElem? (i := 872) (by decide +kernel)⟩
theorem lw_p29 : lw_okq (⟨"BackCourtModel", "told", "(II)I"⟩, 27) := ⟨⟨by decide +kernel, by decide +kernel⟩, List.mem_of_getElem? (i := 687) (by decide +kernel), List.mem_of_getElem? (i := 875) (by decide +kernel), List.mem_of_getElem? (i := 876) (by decide +kernel)⟩
theorem lw_p30 : lw_okq (⟨"BackCourtModel", "citing", "(II)I"⟩, 27) := ⟨⟨by decide +kernel, by decide +kernel⟩, List.mem_of_getElem? (i := 687) (by decide +kernel), List.mem_of_getElem? (i := 879) (by decide +kernel), List.mem_of_getElem? (i := 880) (by decide +kernel)⟩
theorem lw_p31 : lw_okq (⟨"BackCourtModel", "all", "()V"⟩, 27) := ⟨⟨by decide +kernel, by decide +kernel⟩, List.mem_of_getElem? (i := 687) (by decide +kernel), List.mem_of_getElem? (i := 890) (by decide +kernel), List.mem_of_getElem? (i := 891) (by decide +kernel)⟩
def lw_privs_2 : List (MethodName × Nat) := [(⟨"BackCourt", "fileByLot", "(I)V"⟩, 13), (⟨"BackCourt", "countOf", "(I)I"⟩, 13), (⟨"BackCourtModel", "finds", "(I)I"⟩, 27), (⟨"BackCourtModel", "tells", "(I)I"⟩, 27), (⟨"BackCourtModel", "isPart", "(III)Z"⟩, 27), (⟨"BackCourtModel", "reads", "(IZ)I"⟩, 27), (⟨"BackCourtModel", "byteAt", "(II)I"⟩, 27), (⟨"BackCourtModel", "readsItem", "(III)V"⟩, 27), (⟨"BackCourtModel", "figure", "(III)I"⟩, 27), (⟨"BackCourtModel", "faults", "(I)V"⟩, 27), (⟨"BackCourtModel", "readsCitation", "(III)V"⟩, 27), (⟨"BackCourtModel", "adds", "(IIIIII)V"⟩, 27), (⟨"BackCourtModel", "isRuling", "(I)Z"⟩, 27), (⟨"BackCourtModel", "told", "(II)I"⟩, 27), (⟨"BackCourtModel", "citing", "(II)I"⟩, 27), (⟨"BackCourtModel", "all", "()V"⟩, 27)]
theorem lw_r2 : ∀ q ∈ lw_privs_2, lw_okq q := List.forall_mem_cons.mpr ⟨lw_p16, List.forall_mem_cons.mpr ⟨lw_p17, List.forall_mem_cons.mpr ⟨lw_p18, List.forall_mem_cons.mpr ⟨lw_p19, List.forall_mem_cons.mpr ⟨lw_p20, List.forall_mem_cons.mpr ⟨lw_p21, List.forall_mem_cons.mpr ⟨lw_p22, List.forall_mem_cons.mpr ⟨lw_p23, List.forall_mem_cons.mpr ⟨lw_p24, List.forall_mem_cons.mpr ⟨lw_p25, List.forall_mem_cons.mpr ⟨lw_p26, List.forall_mem_cons.mpr ⟨lw_p27, List.forall_mem_cons.mpr ⟨lw_p28, List.forall_mem_cons.mpr ⟨lw_p29, List.forall_mem_cons.mpr ⟨lw_p30, List.forall_mem_cons.mpr ⟨lw_p31, fun _ h => absurd h List.not_mem_nil⟩⟩⟩⟩⟩⟩⟩⟩⟩⟩⟩⟩⟩⟩⟩⟩
theorem lw_p32 : lw_okq (⟨"BackCourtModel", "standsIn", "(I)I"⟩, 27) := ⟨⟨by decide +kernel, by decide +kernel⟩, List.mem_of_getElem? (i := 687) (by decide +kernel), List.mem_of_getElem? (i := 894) (by decide +kernel), List.mem_of_getElem? (i := 895) (by decide +kernel)⟩
theorem lw_p33 : lw_okq (⟨"BackCourtModel", "isWay", "(I)Z"⟩, 27) := ⟨⟨by decide +kernel, by decide +kernel⟩, List.mem_of_getElem? (i := 687) (by decide +kernel), List.mem_of_getElem? (i := 901) (by decide +kernel), List.mem_of_getElem? (i := 902) (by decide +kernel)⟩
theorem lw_p34 : lw_okq (⟨"BackCourtModel", "dueBy", "(I)I"⟩, 27) := ⟨⟨by decide +kernel, by decide +kernel⟩, List.mem_of_getElem? (i := 687) (by decide +kernel), List.mem_of_getElem? (i := 905) (by decide +kernel), List.mem_of_getElem? (i := 906) (by decide +kernel)⟩
theorem lw_p35 : lw_okq (⟨"BackCourtModel", "isDue", "(IIIII)Z"⟩, 27) := ⟨⟨by decide +kernel, by decide +kernel⟩, List.mem_of_getElem? (i := 687) (by decide +kernel), List.mem_of_getElem? (i := 909) (by decide +kernel), List.mem_of_getElem? (i := 910) (by decide +kernel)⟩
theorem lw_p36 : lw_okq (⟨"BackCourtModel", "depends", "(I)I"⟩, 27) := ⟨⟨by decide +kernel, by decide +kernel⟩, List.mem_of_getElem? (i := 687) (by decide +kernel), List.mem_of_getElem? (i := 913) (by decide +kernel), List.mem_of_getElem? (i := 914) (by decide +kernel)⟩
theorem lw_p37 : lw_okq (⟨"BackCourtModel", "ofItsDay", "(I)I"⟩, 27) := ⟨⟨by decide +kernel, by decide +kernel⟩, List.mem_of_getElem? (i := 687) (by decide +kernel), List.mem_of_getElem? (i := 917) (by decide +kernel), List.mem_of_getElem? (i := 918) (by decide +kernel)⟩
theorem lw_p38 : lw_okq (⟨"BackCourtModel", "isSet", "(I)Z"⟩, 27) := ⟨⟨by decide +kernel, by decide +kernel⟩, List.mem_of_getElem? (i := 687) (by decide +kernel), List.mem_of_getElem? (i := 949) (by decide +kernel), List.mem_of_getElem? (i := 950) (by decide +kernel)⟩
theorem lw_p39 : lw_okq (⟨"BackCourtModel", "firstWay", "()I"⟩, 27) := ⟨⟨by decide +kernel, by decide +kernel⟩, List.mem_of_getElem? (i := 687) (by decide +kernel), List.mem_of_getElem? (i := 957) (by decide +kernel), List.mem_of_getElem? (i := 958) (by decide +kernel)⟩
theorem lw_p40 : lw_okq (⟨"BackCourtModel", "wayMany", "()I"⟩, 27) := ⟨⟨by decide +kernel, by decide +kernel⟩, List.mem_of_getElem? (i := 687) (by decide +kernel), List.mem_of_getElem? (i := 961) (by decide +kernel), List.mem_of_getElem? (i := 962) (by decide +kernel)⟩
theorem lw_p41 : lw_okq (⟨"BackCourtModel", "findsSure", "()V"⟩, 27) := ⟨⟨by decide +kernel, by decide +kernel⟩, List.mem_of_getElem? (i := 687) (by decide +kernel), List.mem_of_getElem? (i := 973) (by decide +kernel), List.mem_of_getElem? (i := 974) (by decide +kernel)⟩
theorem lw_p42 : lw_okq (⟨"BackCourtModel", "upTo", "(I)V"⟩, 27) := ⟨⟨by decide +kernel, by decide +kernel⟩, List.mem_of_getElem? (i := 687) (by decide +kernel), List.mem_of_getElem? (i := 989) (by decide +kernel), List.mem_of_getElem? (i := 990) (by decide +kernel)⟩
theorem lw_p43 : lw_okq (⟨"BackCourtModel", "files", "(III)I"⟩, 27) := ⟨⟨by decide +kernel, by decide +kernel⟩, List.mem_of_getElem? (i := 687) (by decide +kernel), List.mem_of_getElem? (i := 1005) (by decide +kernel), List.mem_of_getElem? (i := 1006) (by decide +kernel)⟩
theorem lw_p44 : lw_okq (⟨"BackCourtModel", "strikes", "(II)Z"⟩, 27) := ⟨⟨by decide +kernel, by decide +kernel⟩, List.mem_of_getElem? (i := 687) (by decide +kernel), List.mem_of_getElem? (i := 1012) (by decide +kernel), List.mem_of_getElem? (i := 1013) (by decide +kernel)⟩
theorem lw_p45 : lw_okq (⟨"BackCourtModel", "isReached", "(II)Z"⟩, 27) := ⟨⟨by decide +kernel, by decide +kernel⟩, List.mem_of_getElem? (i := 687) (by decide +kernel), List.mem_of_getElem? (i := 1016) (by decide +kernel), List.mem_of_getElem? (i := 1017) (by decide +kernel)⟩
theorem lw_p46 : lw_okq (⟨"BackCourtModel", "otherwise", "(I)I"⟩, 27) := ⟨⟨by decide +kernel, by decide +kernel⟩, List.mem_of_getElem? (i := 687) (by decide +kernel), List.mem_of_getElem? (i := 1033) (by decide +kernel), List.mem_of_getElem? (i := 1034) (by decide +kernel)⟩
theorem lw_p47 : lw_okq (⟨"BackCourtModel", "verdictBy", "(III)I"⟩, 27) := ⟨⟨by decide +kernel, by decide +kernel⟩, List.mem_of_getElem? (i := 687) (by decide +kernel), List.mem_of_getElem? (i := 1055) (by decide +kernel), List.mem_of_getElem? (i := 1056) (by decide +kernel)⟩
def lw_privs_3 : List (MethodName × Nat) := [(⟨"BackCourtModel", "standsIn", "(I)I"⟩, 27), (⟨"BackCourtModel", "isWay", "(I)Z"⟩, 27), (⟨"BackCourtModel", "dueBy", "(I)I"⟩, 27), (⟨"BackCourtModel", "isDue", "(IIIII)Z"⟩, 27), (⟨"BackCourtModel", "depends", "(I)I"⟩, 27), (⟨"BackCourtModel", "ofItsDay", "(I)I"⟩, 27), (⟨"BackCourtModel", "isSet", "(I)Z"⟩, 27), (⟨"BackCourtModel", "firstWay", "()I"⟩, 27), (⟨"BackCourtModel", "wayMany", "()I"⟩, 27), (⟨"BackCourtModel", "findsSure", "()V"⟩, 27), (⟨"BackCourtModel", "upTo", "(I)V"⟩, 27), (⟨"BackCourtModel", "files", "(III)I"⟩, 27), (⟨"BackCourtModel", "strikes", "(II)Z"⟩, 27), (⟨"BackCourtModel", "isReached", "(II)Z"⟩, 27), (⟨"BackCourtModel", "otherwise", "(I)I"⟩, 27), (⟨"BackCourtModel", "verdictBy", "(III)I"⟩, 27)]
theorem lw_r3 : ∀ q ∈ lw_privs_3, lw_okq q := List.forall_mem_cons.mpr ⟨lw_p32, List.forall_mem_cons.mpr ⟨lw_p33, List.forall_mem_cons.mpr ⟨lw_p34, List.forall_mem_cons.mpr ⟨lw_p35, List.forall_mem_cons.mpr ⟨lw_p36, List.forall_mem_cons.mpr ⟨lw_p37, List.forall_mem_cons.mpr ⟨lw_p38, List.forall_mem_cons.mpr ⟨lw_p39, List.forall_mem_cons.mpr ⟨lw_p40, List.forall_mem_cons.mpr ⟨lw_p41, List.forall_mem_cons.mpr ⟨lw_p42, List.forall_mem_cons.mpr ⟨lw_p43, List.forall_mem_cons.mpr ⟨lw_p44, List.forall_mem_cons.mpr ⟨lw_p45, List.forall_mem_cons.mpr ⟨lw_p46, List.forall_mem_cons.mpr ⟨lw_p47, fun _ h => absurd h List.not_mem_nil⟩⟩⟩⟩⟩⟩⟩⟩⟩⟩⟩⟩⟩⟩⟩⟩
theorem lw_p48 : lw_okq (⟨"BackCourtModel", "agrees", "(II)Z"⟩, 27) := ⟨⟨by decide +kernel, by decide +kernel⟩, List.mem_of_getElem? (i := 687) (by decide +kernel), List.mem_of_getElem? (i := 1071) (by decide +kernel), List.mem_of_getElem? (i := 1072) (by decide +kernel)⟩
theorem lw_p49 : lw_okq (⟨"BackCourtModel", "ahead", "(I)I"⟩, 27) := ⟨⟨by decide +kernel, by decide +kernel⟩, List.mem_of_getElem? (i := 687) (by decide +kernel), List.mem_of_getElem? (i := 1094) (by decide +kernel), List.mem_of_getElem? (i := 1095) (by decide +kernel)⟩
theorem lw_p50 : lw_okq (⟨"BackCourtModel", "nthAhead", "(II)I"⟩, 27) := ⟨⟨by decide +kernel, by decide +kernel⟩, List.mem_of_getElem? (i := 687) (by decide +kernel), List.mem_of_getElem? (i := 1098) (by decide +kernel), List.mem_of_getElem? (i := 1099) (by decide +kernel)⟩
theorem lw_p51 : lw_okq (⟨"BackCourtModel", "counted", "(I)I"⟩, 27) := ⟨⟨by decide +kernel, by decide +kernel⟩, List.mem_of_getElem? (i := 687) (by decide +kernel), List.mem_of_getElem? (i := 1118) (by decide +kernel), List.mem_of_getElem? (i := 1119) (by decide +kernel)⟩
def lw_privs_4 : List (MethodName × Nat) := [(⟨"BackCourtModel", "agrees", "(II)Z"⟩, 27), (⟨"BackCourtModel", "ahead", "(I)I"⟩, 27), (⟨"BackCourtModel", "nthAhead", "(II)I"⟩, 27), (⟨"BackCourtModel", "counted", "(I)I"⟩, 27)]
theorem lw_r4 : ∀ q ∈ lw_privs_4, lw_okq q := List.forall_mem_cons.mpr ⟨lw_p48, List.forall_mem_cons.mpr ⟨lw_p49, List.forall_mem_cons.mpr ⟨lw_p50, List.forall_mem_cons.mpr ⟨lw_p51, fun _ h => absurd h List.not_mem_nil⟩⟩⟩⟩
def lw_privs : List (MethodName × Nat) := lw_privs_1 ++ (lw_privs_2 ++ (lw_privs_3 ++ (lw_privs_4)))
def lw_tbl : List Cond := k2_sels lw_privs ++ tables_1
theorem lw_privs_ok : ∀ q ∈ lw_privs, lw_okq q := by
  show ∀ q ∈ lw_privs_1 ++ (lw_privs_2 ++ (lw_privs_3 ++ (lw_privs_4))), lw_okq q
  exact List.forall_mem_append.mpr ⟨lw_r1, List.forall_mem_append.mpr ⟨lw_r2, List.forall_mem_append.mpr ⟨lw_r3, lw_r4⟩⟩⟩
end
section
def RX0 : String := "BackCourt$Bench"
def TX0 : u_T := fun k => match k with
  | 0 => ("BackCourt$Bench", "kind", "[I", true)
  | 1 => ("BackCourt$Bench", "against", "[I", true)
  | 2 => ("BackCourt$Bench", "inFavour", "[I", true)
  | 3 => ("BackCourt$Bench", "cited", "[I", true)
  | 4 => ("BackCourt$Bench", "sameDay", "[I", true)
  | 5 => ("BackCourt$Bench", "filed", "[I", true)
  | 6 => ("BackCourt$Bench", "absent", "I", false)
  | _ => ("BackCourt$Bench", "size", "I", false)
def tyX0 : Nat → FieldType := fun k => match k with
  | 0 => .array .int
  | 1 => .array .int
  | 2 => .array .int
  | 3 => .array .int
  | 4 => .array .int
  | 5 => .array .int
  | 6 => .int
  | _ => .int
abbrev wsX00 : List Cond := u_ws RX0 TX0 8
theorem nmX0 : ∀ a, a < 8 → ∀ b, b < 8 → a ≠ b → (TX0 a).2.1 ≠ (TX0 b).2.1 := by decide +kernel
theorem tyX0_ok : ∀ k, k < 8 → parseFieldDescriptor (TX0 k).2.2.1 = some (tyX0 k) := by decide +kernel
abbrev cX0_init : ByteArray := prog_2_method_1_code
def yX0_init : MethodName := ⟨RX0, "<init>", "()V"⟩
abbrev cX0_seat : ByteArray := prog_2_method_2_code
def yX0_seat : MethodName := ⟨RX0, "seat", "(LBackCourt$Court;)V"⟩
abbrev cX0_forgetCitation : ByteArray := prog_2_method_3_code
def yX0_forgetCitation : MethodName := ⟨RX0, "forgetCitation", "(I)V"⟩
abbrev cX0_isMovedByOneMore : ByteArray := prog_2_method_4_code
def yX0_isMovedByOneMore : MethodName := ⟨RX0, "isMovedByOneMore", "(I)Z"⟩
abbrev cX0_isToStand : ByteArray := prog_2_method_5_code
def yX0_isToStand : MethodName := ⟨RX0, "isToStand", "(II)Z"⟩
abbrev cX0_clash : ByteArray := prog_2_method_6_code
def yX0_clash : MethodName := ⟨RX0, "clash", "(I)I"⟩
abbrev cX0_mattersTo : ByteArray := prog_2_method_7_code
def yX0_mattersTo : MethodName := ⟨RX0, "mattersTo", "(I)I"⟩
def RX1 : String := "BackCourt$Court"
def TX1 : u_T := fun k => match k with
  | 0 => ("BackCourt$Court", "kind", "[I", true)
  | 1 => ("BackCourt$Court", "day", "[I", true)
  | 2 => ("BackCourt$Court", "verdict", "[I", true)
  | 3 => ("BackCourt$Court", "cites", "[I", true)
  | 4 => ("BackCourt$Court", "how", "[I", true)
  | 5 => ("BackCourt$Court", "marks", "[I", true)
  | _ => ("BackCourt$Court", "size", "I", false)
def tyX1 : Nat → FieldType := fun k => match k with
  | 0 => .array .int
  | 1 => .array .int
  | 2 => .array .int
  | 3 => .array .int
  | 4 => .array .int
  | 5 => .array .int
  | _ => .int
abbrev wsX10 : List Cond := u_ws RX1 TX1 7
theorem nmX1 : ∀ a, a < 7 → ∀ b, b < 7 → a ≠ b → (TX1 a).2.1 ≠ (TX1 b).2.1 := by decide +kernel
theorem tyX1_ok : ∀ k, k < 7 → parseFieldDescriptor (TX1 k).2.2.1 = some (tyX1 k) := by decide +kernel
abbrev cX1_init : ByteArray := prog_3_method_1_code
def yX1_init : MethodName := ⟨RX1, "<init>", "()V"⟩
abbrev cX1_has : ByteArray := prog_3_method_2_code
def yX1_has : MethodName := ⟨RX1, "has", "(I)Z"⟩
abbrev cX1_everyRuling : ByteArray := prog_3_method_3_code
def yX1_everyRuling : MethodName := ⟨RX1, "everyRuling", "()I"⟩
abbrev cX1_canBeCited : ByteArray := prog_3_method_4_code
def yX1_canBeCited : MethodName := ⟨RX1, "canBeCited", "(II)Z"⟩
abbrev cX1_citable : ByteArray := prog_3_method_5_code
def yX1_citable : MethodName := ⟨RX1, "citable", "(II)I"⟩
abbrev cX1_add : ByteArray := prog_3_method_6_code
def yX1_add : MethodName := ⟨RX1, "add", "(IIIIII)V"⟩
abbrev cX1_cutTo : ByteArray := prog_3_method_7_code
def yX1_cutTo : MethodName := ⟨RX1, "cutTo", "(I)V"⟩
abbrev cX1_become : ByteArray := prog_3_method_8_code
def yX1_become : MethodName := ⟨RX1, "become", "(LBackCourt$Court;)V"⟩
abbrev cX1_detail : ByteArray := prog_3_method_9_code
def yX1_detail : MethodName := ⟨RX1, "detail", "(II)I"⟩
abbrev cX1_citations : ByteArray := prog_3_method_10_code
def yX1_citations : MethodName := ⟨RX1, "citations", "(II)I"⟩
abbrev cX1_dependsOn : ByteArray := prog_3_method_11_code
def yX1_dependsOn : MethodName := ⟨RX1, "dependsOn", "(I)I"⟩
abbrev cX1_ofDay : ByteArray := prog_3_method_12_code
def yX1_ofDay : MethodName := ⟨RX1, "ofDay", "(I)I"⟩
abbrev cX1_othersOfItsDay : ByteArray := prog_3_method_13_code
def yX1_othersOfItsDay : MethodName := ⟨RX1, "othersOfItsDay", "(I)I"⟩
abbrev cX1_laterThan : ByteArray := prog_3_method_14_code
def yX1_laterThan : MethodName := ⟨RX1, "laterThan", "(I)I"⟩
abbrev cX1_countOf : ByteArray := prog_3_method_15_code
def yX1_countOf : MethodName := ⟨RX1, "countOf", "(I)I"⟩
abbrev cX1_likeness : ByteArray := prog_3_method_16_code
def yX1_likeness : MethodName := ⟨RX1, "likeness", "(III)I"⟩
abbrev cX1_decide : ByteArray := prog_3_method_17_code
def yX1_decide : MethodName := ⟨RX1, "decide", "(III)I"⟩
abbrev cX1_verdictsBy : ByteArray := prog_3_method_18_code
def yX1_verdictsBy : MethodName := ⟨RX1, "verdictsBy", "(I)I"⟩
abbrev cX1_agrees : ByteArray := prog_3_method_19_code
def yX1_agrees : MethodName := ⟨RX1, "agrees", "(II)Z"⟩
def RX2 : String := "BackCourt$Reader"
def TX2 : u_T := fun k => match k with
  | 0 => ("BackCourt$Reader", "draft", "LBackCourt$Court;", true)
  | 1 => ("BackCourt$Reader", "source", "LBackCourt$Row;", false)
  | _ => ("BackCourt$Reader", "place", "I", false)
def tyX2 : Nat → FieldType := fun k => match k with
  | 0 => .object "BackCourt$Court"
  | 1 => .object "BackCourt$Row"
  | _ => .int
abbrev wsX20 : List Cond := u_ws RX2 TX2 3
theorem nmX2 : ∀ a, a < 3 → ∀ b, b < 3 → a ≠ b → (TX2 a).2.1 ≠ (TX2 b).2.1 := by decide +kernel
theorem tyX2_ok : ∀ k, k < 3 → parseFieldDescriptor (TX2 k).2.2.1 = some (tyX2 k) := by decide +kernel
abbrev cX2_init : ByteArray := prog_4_method_1_code
def yX2_init : MethodName := ⟨RX2, "<init>", "()V"⟩
abbrev cX2_read : ByteArray := prog_4_method_2_code
def yX2_read : MethodName := ⟨RX2, "read", "(LBackCourt$Row;)I"⟩
abbrev cX2_skipBlanks : ByteArray := prog_4_method_3_code
def yX2_skipBlanks : MethodName := ⟨RX2, "skipBlanks", "()V"⟩
abbrev cX2_readItem : ByteArray := prog_4_method_4_code
def yX2_readItem : MethodName := ⟨RX2, "readItem", "()Z"⟩
abbrev cX2_sign : ByteArray := prog_4_method_5_code
def yX2_sign : MethodName := ⟨RX2, "sign", "()I"⟩
abbrev cX2_letter : ByteArray := prog_4_method_6_code
def yX2_letter : MethodName := ⟨RX2, "letter", "()I"⟩
abbrev cX2_figure : ByteArray := prog_4_method_7_code
def yX2_figure : MethodName := ⟨RX2, "figure", "()I"⟩
abbrev cX2_readMarks : ByteArray := prog_4_method_8_code
def yX2_readMarks : MethodName := ⟨RX2, "readMarks", "()I"⟩
def RX3 : String := "BackCourt$Row"
def TX3 : u_T := fun k => match k with
  | 0 => ("BackCourt$Row", "values", "[I", true)
  | _ => ("BackCourt$Row", "size", "I", false)
def tyX3 : Nat → FieldType := fun k => match k with
  | 0 => .array .int
  | _ => .int
abbrev wsX30 : List Cond := u_ws RX3 TX3 2
theorem nmX3 : ∀ a, a < 2 → ∀ b, b < 2 → a ≠ b → (TX3 a).2.1 ≠ (TX3 b).2.1 := by decide +kernel
theorem tyX3_ok : ∀ k, k < 2 → parseFieldDescriptor (TX3 k).2.2.1 = some (tyX3 k) := by decide +kernel
abbrev cX3_init : ByteArray := prog_5_method_1_code
def yX3_init : MethodName := ⟨RX3, "<init>", "(I)V"⟩
abbrev cX3_isMissing : ByteArray := prog_5_method_2_code
def yX3_isMissing : MethodName := ⟨RX3, "isMissing", "()Z"⟩
abbrev cX3_has : ByteArray := prog_5_method_3_code
def yX3_has : MethodName := ⟨RX3, "has", "(I)Z"⟩
abbrev cX3_hasRun : ByteArray := prog_5_method_4_code
def yX3_hasRun : MethodName := ⟨RX3, "hasRun", "(II)Z"⟩
abbrev cX3_value : ByteArray := prog_5_method_5_code
def yX3_value : MethodName := ⟨RX3, "value", "(I)I"⟩
abbrev cX3_swap : ByteArray := prog_5_method_6_code
def yX3_swap : MethodName := ⟨RX3, "swap", "(II)I"⟩
abbrev cX3_renew : ByteArray := prog_5_method_7_code
def yX3_renew : MethodName := ⟨RX3, "renew", "(II)V"⟩
abbrev cX3_remove : ByteArray := prog_5_method_8_code
def yX3_remove : MethodName := ⟨RX3, "remove", "()V"⟩
abbrev cX3_sum : ByteArray := prog_5_method_9_code
def yX3_sum : MethodName := ⟨RX3, "sum", "()J"⟩
abbrev cX3_digestFrom : ByteArray := prog_5_method_10_code
def yX3_digestFrom : MethodName := ⟨RX3, "digestFrom", "(J)J"⟩
def RX4 : String := "BackCourt$Ways"
def TX4 : u_T := fun k => match k with
  | 0 => ("BackCourt$Ways", "sets", "[I", true)
  | 1 => ("BackCourt$Ways", "number", "I", false)
  | 2 => ("BackCourt$Ways", "inEach", "I", false)
  | 3 => ("BackCourt$Ways", "inSome", "I", false)
  | _ => ("BackCourt$Ways", "every", "I", false)
def tyX4 : Nat → FieldType := fun k => match k with
  | 0 => .array .int
  | 1 => .int
  | 2 => .int
  | 3 => .int
  | _ => .int
abbrev wsX40 : List Cond := u_ws RX4 TX4 5
theorem nmX4 : ∀ a, a < 5 → ∀ b, b < 5 → a ≠ b → (TX4 a).2.1 ≠ (TX4 b).2.1 := by decide +kernel
theorem tyX4_ok : ∀ k, k < 5 → parseFieldDescriptor (TX4 k).2.2.1 = some (tyX4 k) := by decide +kernel
abbrev cX4_init : ByteArray := prog_6_method_1_code
def yX4_init : MethodName := ⟨RX4, "<init>", "()V"⟩
abbrev cX4_find : ByteArray := prog_6_method_2_code
def yX4_find : MethodName := ⟨RX4, "find", "(LBackCourt$Bench;)V"⟩
abbrev cX4_first : ByteArray := prog_6_method_3_code
def yX4_first : MethodName := ⟨RX4, "first", "()I"⟩
abbrev cX4_surelyStanding : ByteArray := prog_6_method_4_code
def yX4_surelyStanding : MethodName := ⟨RX4, "surelyStanding", "()I"⟩
abbrev cX4_surelyFalling : ByteArray := prog_6_method_5_code
def yX4_surelyFalling : MethodName := ⟨RX4, "surelyFalling", "()I"⟩
abbrev cX4_waysWith : ByteArray := prog_6_method_6_code
def yX4_waysWith : MethodName := ⟨RX4, "waysWith", "(I)I"⟩
abbrev cX4_meets : ByteArray := prog_6_method_7_code
def yX4_meets : MethodName := ⟨RX4, "meets", "(II)Z"⟩
def RX5 : String := "BackCourt"
def TX5 : u_T := fun k => match k with
  | 0 => ("BackCourt", "rows", "[LBackCourt$Row;", true)
  | 1 => ("BackCourt", "texts", "[LBackCourt$Row;", true)
  | 2 => ("BackCourt", "court", "LBackCourt$Court;", true)
  | 3 => ("BackCourt", "kept", "[LBackCourt$Court;", true)
  | 4 => ("BackCourt", "reader", "LBackCourt$Reader;", true)
  | 5 => ("BackCourt", "bench", "LBackCourt$Bench;", true)
  | 6 => ("BackCourt", "found", "LBackCourt$Ways;", true)
  | 7 => ("BackCourt", "picked", "[I", true)
  | 8 => ("BackCourt", "answered", "[I", true)
  | 9 => ("BackCourt", "latest", "I", false)
  | 10 => ("BackCourt", "told", "I", false)
  | 11 => ("BackCourt", "upperTold", "J", false)
  | _ => ("BackCourt", "lowerTold", "J", false)
def tyX5 : Nat → FieldType := fun k => match k with
  | 0 => .array (.object "BackCourt$Row")
  | 1 => .array (.object "BackCourt$Row")
  | 2 => .object "BackCourt$Court"
  | 3 => .array (.object "BackCourt$Court")
  | 4 => .object "BackCourt$Reader"
  | 5 => .object "BackCourt$Bench"
  | 6 => .object "BackCourt$Ways"
  | 7 => .array .int
  | 8 => .array .int
  | 9 => .int
  | 10 => .int
  | 11 => .long
  | _ => .long
abbrev wsX50 : List Cond := u_ws RX5 TX5 13
theorem nmX5 : ∀ a, a < 13 → ∀ b, b < 13 → a ≠ b → (TX5 a).2.1 ≠ (TX5 b).2.1 := by decide +kernel
theorem tyX5_ok : ∀ k, k < 13 → parseFieldDescriptor (TX5 k).2.2.1 = some (tyX5 k) := by decide +kernel
abbrev cX5_init : ByteArray := prog_1_method_1_code
def yX5_init : MethodName := ⟨RX5, "<init>", "()V"⟩
abbrev cX5_row : ByteArray := prog_1_method_2_code
def yX5_row : MethodName := ⟨RX5, "row", "(II)I"⟩
abbrev cX5_lay : ByteArray := prog_1_method_3_code
def yX5_lay : MethodName := ⟨RX5, "lay", "(III)I"⟩
abbrev cX5_at : ByteArray := prog_1_method_4_code
def yX5_at : MethodName := ⟨RX5, "at", "(II)I"⟩
abbrev cX5_tear : ByteArray := prog_1_method_5_code
def yX5_tear : MethodName := ⟨RX5, "tear", "(I)I"⟩
abbrev cX5_copy : ByteArray := prog_1_method_6_code
def yX5_copy : MethodName := ⟨RX5, "copy", "(IIIII)I"⟩
abbrev cX5_mean : ByteArray := prog_1_method_7_code
def yX5_mean : MethodName := ⟨RX5, "mean", "(I)I"⟩
abbrev cX5_text : ByteArray := prog_1_method_8_code
def yX5_text : MethodName := ⟨RX5, "text", "(II)I"⟩
abbrev cX5_put : ByteArray := prog_1_method_9_code
def yX5_put : MethodName := ⟨RX5, "put", "(III)I"⟩
abbrev cX5_fault : ByteArray := prog_1_method_10_code
def yX5_fault : MethodName := ⟨RX5, "fault", "(I)I"⟩
abbrev cX5_court : ByteArray := prog_1_method_11_code
def yX5_court : MethodName := ⟨RX5, "court", "(I)I"⟩
abbrev cX5_ruling : ByteArray := prog_1_method_12_code
def yX5_ruling : MethodName := ⟨RX5, "ruling", "(II)I"⟩
abbrev cX5_mark : ByteArray := prog_1_method_13_code
def yX5_mark : MethodName := ⟨RX5, "mark", "(II)I"⟩
abbrev cX5_reverse : ByteArray := prog_1_method_14_code
def yX5_reverse : MethodName := ⟨RX5, "reverse", "(II)I"⟩
abbrev cX5_marks : ByteArray := prog_1_method_15_code
def yX5_marks : MethodName := ⟨RX5, "marks", "(II)I"⟩
abbrev cX5_file : ByteArray := prog_1_method_16_code
def yX5_file : MethodName := ⟨RX5, "file", "(IIIII)I"⟩
abbrev cX5_strike : ByteArray := prog_1_method_17_code
def yX5_strike : MethodName := ⟨RX5, "strike", "(I)I"⟩
abbrev cX5_keep : ByteArray := prog_1_method_18_code
def yX5_keep : MethodName := ⟨RX5, "keep", "(I)I"⟩
abbrev cX5_on : ByteArray := prog_1_method_19_code
def yX5_on : MethodName := ⟨RX5, "on", "(I)I"⟩
abbrev cX5_due : ByteArray := prog_1_method_20_code
def yX5_due : MethodName := ⟨RX5, "due", "(I)I"⟩
abbrev cX5_ways : ByteArray := prog_1_method_21_code
def yX5_ways : MethodName := ⟨RX5, "ways", "()I"⟩
abbrev cX5_nth : ByteArray := prog_1_method_22_code
def yX5_nth : MethodName := ⟨RX5, "nth", "(I)I"⟩
abbrev cX5_sure : ByteArray := prog_1_method_23_code
def yX5_sure : MethodName := ⟨RX5, "sure", "()I"⟩
abbrev cX5_odds : ByteArray := prog_1_method_24_code
def yX5_odds : MethodName := ⟨RX5, "odds", "(I)I"⟩
abbrev cX5_together : ByteArray := prog_1_method_25_code
def yX5_together : MethodName := ⟨RX5, "together", "(I)I"⟩
abbrev cX5_till : ByteArray := prog_1_method_26_code
def yX5_till : MethodName := ⟨RX5, "till", "(I)I"⟩
abbrev cX5_flips : ByteArray := prog_1_method_27_code
def yX5_flips : MethodName := ⟨RX5, "flips", "(I)I"⟩
abbrev cX5_jam : ByteArray := prog_1_method_28_code
def yX5_jam : MethodName := ⟨RX5, "jam", "()I"⟩
abbrev cX5_fell : ByteArray := prog_1_method_29_code
def yX5_fell : MethodName := ⟨RX5, "fell", "(II)I"⟩
abbrev cX5_guard : ByteArray := prog_1_method_30_code
def yX5_guard : MethodName := ⟨RX5, "guard", "(II)I"⟩
abbrev cX5_settle : ByteArray := prog_1_method_31_code
def yX5_settle : MethodName := ⟨RX5, "settle", "(I)I"⟩
abbrev cX5_matter : ByteArray := prog_1_method_32_code
def yX5_matter : MethodName := ⟨RX5, "matter", "(I)I"⟩
abbrev cX5_judge : ByteArray := prog_1_method_33_code
def yX5_judge : MethodName := ⟨RX5, "judge", "()I"⟩
abbrev cX5_like : ByteArray := prog_1_method_34_code
def yX5_like : MethodName := ⟨RX5, "like", "(II)I"⟩
abbrev cX5_verdict : ByteArray := prog_1_method_35_code
def yX5_verdict : MethodName := ⟨RX5, "verdict", "(II)I"⟩
abbrev cX5_surely : ByteArray := prog_1_method_36_code
def yX5_surely : MethodName := ⟨RX5, "surely", "(I)I"⟩
abbrev cX5_freed : ByteArray := prog_1_method_37_code
def yX5_freed : MethodName := ⟨RX5, "freed", "(I)I"⟩
abbrev cX5_code : ByteArray := prog_1_method_38_code
def yX5_code : MethodName := ⟨RX5, "code", "()I"⟩
abbrev cX5_kinds : ByteArray := prog_1_method_39_code
def yX5_kinds : MethodName := ⟨RX5, "kinds", "(II)I"⟩
abbrev cX5_forged : ByteArray := prog_1_method_40_code
def yX5_forged : MethodName := ⟨RX5, "forged", "(I)I"⟩
abbrev cX5_torn : ByteArray := prog_1_method_41_code
def yX5_torn : MethodName := ⟨RX5, "torn", "(II)I"⟩
abbrev cX5_lots : ByteArray := prog_1_method_42_code
def yX5_lots : MethodName := ⟨RX5, "lots", "(II)I"⟩
abbrev cX5_asked : ByteArray := prog_1_method_43_code
def yX5_asked : MethodName := ⟨RX5, "asked", "()I"⟩
abbrev cX5_upper : ByteArray := prog_1_method_44_code
def yX5_upper : MethodName := ⟨RX5, "upper", "()J"⟩
abbrev cX5_lower : ByteArray := prog_1_method_45_code
def yX5_lower : MethodName := ⟨RX5, "lower", "()J"⟩
abbrev cX5_count : ByteArray := prog_1_method_46_code
def yX5_count : MethodName := ⟨RX5, "count", "(I)I"⟩
abbrev cX5_finding : ByteArray := prog_1_method_47_code
def yX5_finding : MethodName := ⟨RX5, "finding", "()I"⟩
abbrev cX5_findings : ByteArray := prog_1_method_48_code
def yX5_findings : MethodName := ⟨RX5, "findings", "(I)I"⟩
abbrev cX5_digest : ByteArray := prog_1_method_49_code
def yX5_digest : MethodName := ⟨RX5, "digest", "()J"⟩
abbrev cX5_within : ByteArray := prog_1_method_50_code
def yX5_within : MethodName := ⟨RX5, "within", "(II)Z"⟩
abbrev cX5_holds : ByteArray := prog_1_method_51_code
def yX5_holds : MethodName := ⟨RX5, "holds", "(II)Z"⟩
abbrev cX5_isOfKind : ByteArray := prog_1_method_52_code
def yX5_isOfKind : MethodName := ⟨RX5, "isOfKind", "(II)Z"⟩
abbrev cX5_greatestDivisor : ByteArray := prog_1_method_53_code
def yX5_greatestDivisor : MethodName := ⟨RX5, "greatestDivisor", "(II)I"⟩
abbrev cX5_refuse : ByteArray := prog_1_method_54_code
def yX5_refuse : MethodName := ⟨RX5, "refuse", "(I)I"⟩
abbrev cX5_tell : ByteArray := prog_1_method_55_code
def yX5_tell : MethodName := ⟨RX5, "tell", "(I)I"⟩
abbrev cX5_renewed : ByteArray := prog_1_method_56_code
def yX5_renewed : MethodName := ⟨RX5, "renewed", "([LBackCourt$Row;III)I"⟩
abbrev cX5_refusalOfPlace : ByteArray := prog_1_method_57_code
def yX5_refusalOfPlace : MethodName := ⟨RX5, "refusalOfPlace", "(LBackCourt$Row;I)I"⟩
abbrev cX5_isKept : ByteArray := prog_1_method_58_code
def yX5_isKept : MethodName := ⟨RX5, "isKept", "(I)Z"⟩
abbrev cX5_findWays : ByteArray := prog_1_method_59_code
def yX5_findWays : MethodName := ⟨RX5, "findWays", "(I)V"⟩
abbrev cX5_fewest : ByteArray := prog_1_method_60_code
def yX5_fewest : MethodName := ⟨RX5, "fewest", "(III)I"⟩
abbrev cX5_canReach : ByteArray := prog_1_method_61_code
def yX5_canReach : MethodName := ⟨RX5, "canReach", "(IIII)Z"⟩
abbrev cX5_changedWithout : ByteArray := prog_1_method_62_code
def yX5_changedWithout : MethodName := ⟨RX5, "changedWithout", "(I)I"⟩
abbrev cX5_fileByLot : ByteArray := prog_1_method_63_code
def yX5_fileByLot : MethodName := ⟨RX5, "fileByLot", "(I)V"⟩
abbrev cX5_countOf : ByteArray := prog_1_method_64_code
def yX5_countOf : MethodName := ⟨RX5, "countOf", "(I)I"⟩
abbrev cX5_there : ByteArray := prog_1_method_65_code
def yX5_there : MethodName := ⟨RX5, "there", "([LBackCourt$Row;)I"⟩
def RX6 : String := "BackCourtModel"
def TX6 : u_T := fun k => match k with
  | 0 => ("BackCourtModel", "rowSize", "[I", true)
  | 1 => ("BackCourtModel", "rows", "[I", true)
  | 2 => ("BackCourtModel", "textSize", "[I", true)
  | 3 => ("BackCourtModel", "texts", "[I", true)
  | 4 => ("BackCourtModel", "spare", "[I", true)
  | 5 => ("BackCourtModel", "finding", "I", false)
  | 6 => ("BackCourtModel", "findings", "[I", true)
  | 7 => ("BackCourtModel", "asked", "I", false)
  | 8 => ("BackCourtModel", "upper", "J", false)
  | 9 => ("BackCourtModel", "lower", "J", false)
  | 10 => ("BackCourtModel", "many", "I", false)
  | 11 => ("BackCourtModel", "kind", "[I", true)
  | 12 => ("BackCourtModel", "day", "[I", true)
  | 13 => ("BackCourtModel", "verdict", "[I", true)
  | 14 => ("BackCourtModel", "cites", "[I", true)
  | 15 => ("BackCourtModel", "how", "[I", true)
  | 16 => ("BackCourtModel", "marks", "[I", true)
  | 17 => ("BackCourtModel", "keptMany", "[I", true)
  | 18 => ("BackCourtModel", "kept", "[I", true)
  | 19 => ("BackCourtModel", "there", "I", false)
  | 20 => ("BackCourtModel", "struck", "[I", true)
  | 21 => ("BackCourtModel", "ends", "I", false)
  | 22 => ("BackCourtModel", "faultAt", "I", false)
  | 23 => ("BackCourtModel", "item", "[I", true)
  | 24 => ("BackCourtModel", "days", "[I", true)
  | 25 => ("BackCourtModel", "standing", "I", false)
  | _ => ("BackCourtModel", "falling", "I", false)
def tyX6 : Nat → FieldType := fun k => match k with
  | 0 => .array .int
  | 1 => .array .int
  | 2 => .array .int
  | 3 => .array .int
  | 4 => .array .int
  | 5 => .int
  | 6 => .array .int
  | 7 => .int
  | 8 => .long
  | 9 => .long
  | 10 => .int
  | 11 => .array .int
  | 12 => .array .int
  | 13 => .array .int
  | 14 => .array .int
  | 15 => .array .int
  | 16 => .array .int
  | 17 => .array .int
  | 18 => .array .int
  | 19 => .int
  | 20 => .array .int
  | 21 => .int
  | 22 => .int
  | 23 => .array .int
  | 24 => .array .int
  | 25 => .int
  | _ => .int
abbrev wsX60 : List Cond := u_ws RX6 TX6 27
theorem nmX6 : ∀ a, a < 27 → ∀ b, b < 27 → a ≠ b → (TX6 a).2.1 ≠ (TX6 b).2.1 := by decide +kernel
theorem tyX6_ok : ∀ k, k < 27 → parseFieldDescriptor (TX6 k).2.2.1 = some (tyX6 k) := by decide +kernel
abbrev cX6_init : ByteArray := prog_8_method_1_code
def yX6_init : MethodName := ⟨RX6, "<init>", "()V"⟩
abbrev cX6_in : ByteArray := prog_8_method_3_code
def yX6_in : MethodName := ⟨RX6, "in", "(III)Z"⟩
abbrev cX6_has : ByteArray := prog_8_method_4_code
def yX6_has : MethodName := ⟨RX6, "has", "(II)Z"⟩
abbrev cX6_ones : ByteArray := prog_8_method_5_code
def yX6_ones : MethodName := ⟨RX6, "ones", "(I)I"⟩
abbrev cX6_finds : ByteArray := prog_8_method_6_code
def yX6_finds : MethodName := ⟨RX6, "finds", "(I)I"⟩
abbrev cX6_tells : ByteArray := prog_8_method_7_code
def yX6_tells : MethodName := ⟨RX6, "tells", "(I)I"⟩
abbrev cX6_isRow : ByteArray := prog_8_method_8_code
def yX6_isRow : MethodName := ⟨RX6, "isRow", "(I)Z"⟩
abbrev cX6_isText : ByteArray := prog_8_method_9_code
def yX6_isText : MethodName := ⟨RX6, "isText", "(I)Z"⟩
abbrev cX6_row : ByteArray := prog_8_method_10_code
def yX6_row : MethodName := ⟨RX6, "row", "(II)I"⟩
abbrev cX6_lay : ByteArray := prog_8_method_11_code
def yX6_lay : MethodName := ⟨RX6, "lay", "(III)I"⟩
abbrev cX6_at : ByteArray := prog_8_method_12_code
def yX6_at : MethodName := ⟨RX6, "at", "(II)I"⟩
abbrev cX6_tear : ByteArray := prog_8_method_13_code
def yX6_tear : MethodName := ⟨RX6, "tear", "(I)I"⟩
abbrev cX6_isPart : ByteArray := prog_8_method_14_code
def yX6_isPart : MethodName := ⟨RX6, "isPart", "(III)Z"⟩
abbrev cX6_copy : ByteArray := prog_8_method_15_code
def yX6_copy : MethodName := ⟨RX6, "copy", "(IIIII)I"⟩
abbrev cX6_mean : ByteArray := prog_8_method_16_code
def yX6_mean : MethodName := ⟨RX6, "mean", "(I)I"⟩
abbrev cX6_text : ByteArray := prog_8_method_17_code
def yX6_text : MethodName := ⟨RX6, "text", "(II)I"⟩
abbrev cX6_put : ByteArray := prog_8_method_18_code
def yX6_put : MethodName := ⟨RX6, "put", "(III)I"⟩
abbrev cX6_byteAt : ByteArray := prog_8_method_19_code
def yX6_byteAt : MethodName := ⟨RX6, "byteAt", "(II)I"⟩
abbrev cX6_kindOf : ByteArray := prog_8_method_20_code
def yX6_kindOf : MethodName := ⟨RX6, "kindOf", "(I)I"⟩
abbrev cX6_figure : ByteArray := prog_8_method_21_code
def yX6_figure : MethodName := ⟨RX6, "figure", "(III)I"⟩
abbrev cX6_faults : ByteArray := prog_8_method_22_code
def yX6_faults : MethodName := ⟨RX6, "faults", "(I)V"⟩
abbrev cX6_readsCitation : ByteArray := prog_8_method_23_code
def yX6_readsCitation : MethodName := ⟨RX6, "readsCitation", "(III)V"⟩
abbrev cX6_readsItem : ByteArray := prog_8_method_24_code
def yX6_readsItem : MethodName := ⟨RX6, "readsItem", "(III)V"⟩
abbrev cX6_reads : ByteArray := prog_8_method_25_code
def yX6_reads : MethodName := ⟨RX6, "reads", "(IZ)I"⟩
abbrev cX6_fault : ByteArray := prog_8_method_26_code
def yX6_fault : MethodName := ⟨RX6, "fault", "(I)I"⟩
abbrev cX6_adds : ByteArray := prog_8_method_27_code
def yX6_adds : MethodName := ⟨RX6, "adds", "(IIIIII)V"⟩
abbrev cX6_court : ByteArray := prog_8_method_28_code
def yX6_court : MethodName := ⟨RX6, "court", "(I)I"⟩
abbrev cX6_isRuling : ByteArray := prog_8_method_29_code
def yX6_isRuling : MethodName := ⟨RX6, "isRuling", "(I)Z"⟩
abbrev cX6_isSet : ByteArray := prog_8_method_30_code
def yX6_isSet : MethodName := ⟨RX6, "isSet", "(I)Z"⟩
abbrev cX6_citing : ByteArray := prog_8_method_31_code
def yX6_citing : MethodName := ⟨RX6, "citing", "(II)I"⟩
abbrev cX6_told : ByteArray := prog_8_method_32_code
def yX6_told : MethodName := ⟨RX6, "told", "(II)I"⟩
abbrev cX6_ruling : ByteArray := prog_8_method_33_code
def yX6_ruling : MethodName := ⟨RX6, "ruling", "(II)I"⟩
abbrev cX6_isOf : ByteArray := prog_8_method_34_code
def yX6_isOf : MethodName := ⟨RX6, "isOf", "(II)Z"⟩
abbrev cX6_depends : ByteArray := prog_8_method_35_code
def yX6_depends : MethodName := ⟨RX6, "depends", "(I)I"⟩
abbrev cX6_ofItsDay : ByteArray := prog_8_method_36_code
def yX6_ofItsDay : MethodName := ⟨RX6, "ofItsDay", "(I)I"⟩
abbrev cX6_mark : ByteArray := prog_8_method_37_code
def yX6_mark : MethodName := ⟨RX6, "mark", "(II)I"⟩
abbrev cX6_reverse : ByteArray := prog_8_method_38_code
def yX6_reverse : MethodName := ⟨RX6, "reverse", "(II)I"⟩
abbrev cX6_marks : ByteArray := prog_8_method_39_code
def yX6_marks : MethodName := ⟨RX6, "marks", "(II)I"⟩
abbrev cX6_file : ByteArray := prog_8_method_40_code
def yX6_file : MethodName := ⟨RX6, "file", "(IIIII)I"⟩
abbrev cX6_strike : ByteArray := prog_8_method_41_code
def yX6_strike : MethodName := ⟨RX6, "strike", "(I)I"⟩
abbrev cX6_keep : ByteArray := prog_8_method_42_code
def yX6_keep : MethodName := ⟨RX6, "keep", "(I)I"⟩
abbrev cX6_on : ByteArray := prog_8_method_43_code
def yX6_on : MethodName := ⟨RX6, "on", "(I)I"⟩
abbrev cX6_all : ByteArray := prog_8_method_44_code
def yX6_all : MethodName := ⟨RX6, "all", "()V"⟩
abbrev cX6_isDue : ByteArray := prog_8_method_45_code
def yX6_isDue : MethodName := ⟨RX6, "isDue", "(IIIII)Z"⟩
abbrev cX6_dueBy : ByteArray := prog_8_method_46_code
def yX6_dueBy : MethodName := ⟨RX6, "dueBy", "(I)I"⟩
abbrev cX6_isWay : ByteArray := prog_8_method_47_code
def yX6_isWay : MethodName := ⟨RX6, "isWay", "(I)Z"⟩
abbrev cX6_due : ByteArray := prog_8_method_48_code
def yX6_due : MethodName := ⟨RX6, "due", "(I)I"⟩
abbrev cX6_wayMany : ByteArray := prog_8_method_49_code
def yX6_wayMany : MethodName := ⟨RX6, "wayMany", "()I"⟩
abbrev cX6_firstWay : ByteArray := prog_8_method_50_code
def yX6_firstWay : MethodName := ⟨RX6, "firstWay", "()I"⟩
abbrev cX6_standsIn : ByteArray := prog_8_method_51_code
def yX6_standsIn : MethodName := ⟨RX6, "standsIn", "(I)I"⟩
abbrev cX6_ways : ByteArray := prog_8_method_52_code
def yX6_ways : MethodName := ⟨RX6, "ways", "()I"⟩
abbrev cX6_nth : ByteArray := prog_8_method_53_code
def yX6_nth : MethodName := ⟨RX6, "nth", "(I)I"⟩
abbrev cX6_findsSure : ByteArray := prog_8_method_54_code
def yX6_findsSure : MethodName := ⟨RX6, "findsSure", "()V"⟩
abbrev cX6_sure : ByteArray := prog_8_method_55_code
def yX6_sure : MethodName := ⟨RX6, "sure", "()I"⟩
abbrev cX6_odds : ByteArray := prog_8_method_56_code
def yX6_odds : MethodName := ⟨RX6, "odds", "(I)I"⟩
abbrev cX6_together : ByteArray := prog_8_method_57_code
def yX6_together : MethodName := ⟨RX6, "together", "(I)I"⟩
abbrev cX6_upTo : ByteArray := prog_8_method_58_code
def yX6_upTo : MethodName := ⟨RX6, "upTo", "(I)V"⟩
abbrev cX6_till : ByteArray := prog_8_method_59_code
def yX6_till : MethodName := ⟨RX6, "till", "(I)I"⟩
abbrev cX6_flips : ByteArray := prog_8_method_60_code
def yX6_flips : MethodName := ⟨RX6, "flips", "(I)I"⟩
abbrev cX6_jam : ByteArray := prog_8_method_61_code
def yX6_jam : MethodName := ⟨RX6, "jam", "()I"⟩
abbrev cX6_isReached : ByteArray := prog_8_method_62_code
def yX6_isReached : MethodName := ⟨RX6, "isReached", "(II)Z"⟩
abbrev cX6_power : ByteArray := prog_8_method_63_code
def yX6_power : MethodName := ⟨RX6, "power", "(II)I"⟩
abbrev cX6_strikes : ByteArray := prog_8_method_64_code
def yX6_strikes : MethodName := ⟨RX6, "strikes", "(II)Z"⟩
abbrev cX6_files : ByteArray := prog_8_method_65_code
def yX6_files : MethodName := ⟨RX6, "files", "(III)I"⟩
abbrev cX6_fell : ByteArray := prog_8_method_66_code
def yX6_fell : MethodName := ⟨RX6, "fell", "(II)I"⟩
abbrev cX6_guard : ByteArray := prog_8_method_67_code
def yX6_guard : MethodName := ⟨RX6, "guard", "(II)I"⟩
abbrev cX6_settle : ByteArray := prog_8_method_68_code
def yX6_settle : MethodName := ⟨RX6, "settle", "(I)I"⟩
abbrev cX6_otherwise : ByteArray := prog_8_method_69_code
def yX6_otherwise : MethodName := ⟨RX6, "otherwise", "(I)I"⟩
abbrev cX6_matter : ByteArray := prog_8_method_70_code
def yX6_matter : MethodName := ⟨RX6, "matter", "(I)I"⟩
abbrev cX6_judge : ByteArray := prog_8_method_71_code
def yX6_judge : MethodName := ⟨RX6, "judge", "()I"⟩
abbrev cX6_likeness : ByteArray := prog_8_method_72_code
def yX6_likeness : MethodName := ⟨RX6, "likeness", "(II)I"⟩
abbrev cX6_like : ByteArray := prog_8_method_73_code
def yX6_like : MethodName := ⟨RX6, "like", "(II)I"⟩
abbrev cX6_verdictBy : ByteArray := prog_8_method_74_code
def yX6_verdictBy : MethodName := ⟨RX6, "verdictBy", "(III)I"⟩
abbrev cX6_verdict : ByteArray := prog_8_method_75_code
def yX6_verdict : MethodName := ⟨RX6, "verdict", "(II)I"⟩
abbrev cX6_surely : ByteArray := prog_8_method_76_code
def yX6_surely : MethodName := ⟨RX6, "surely", "(I)I"⟩
abbrev cX6_freed : ByteArray := prog_8_method_77_code
def yX6_freed : MethodName := ⟨RX6, "freed", "(I)I"⟩
abbrev cX6_agrees : ByteArray := prog_8_method_78_code
def yX6_agrees : MethodName := ⟨RX6, "agrees", "(II)Z"⟩
abbrev cX6_code : ByteArray := prog_8_method_79_code
def yX6_code : MethodName := ⟨RX6, "code", "()I"⟩
abbrev cX6_kinds : ByteArray := prog_8_method_80_code
def yX6_kinds : MethodName := ⟨RX6, "kinds", "(II)I"⟩
abbrev cX6_forged : ByteArray := prog_8_method_81_code
def yX6_forged : MethodName := ⟨RX6, "forged", "(I)I"⟩
abbrev cX6_torn : ByteArray := prog_8_method_82_code
def yX6_torn : MethodName := ⟨RX6, "torn", "(II)I"⟩
abbrev cX6_ahead : ByteArray := prog_8_method_83_code
def yX6_ahead : MethodName := ⟨RX6, "ahead", "(I)I"⟩
abbrev cX6_nthAhead : ByteArray := prog_8_method_84_code
def yX6_nthAhead : MethodName := ⟨RX6, "nthAhead", "(II)I"⟩
abbrev cX6_lots : ByteArray := prog_8_method_85_code
def yX6_lots : MethodName := ⟨RX6, "lots", "(II)I"⟩
abbrev cX6_asked : ByteArray := prog_8_method_86_code
def yX6_asked : MethodName := ⟨RX6, "asked", "()I"⟩
abbrev cX6_upper : ByteArray := prog_8_method_87_code
def yX6_upper : MethodName := ⟨RX6, "upper", "()J"⟩
abbrev cX6_lower : ByteArray := prog_8_method_88_code
def yX6_lower : MethodName := ⟨RX6, "lower", "()J"⟩
abbrev cX6_counted : ByteArray := prog_8_method_89_code
def yX6_counted : MethodName := ⟨RX6, "counted", "(I)I"⟩
abbrev cX6_count : ByteArray := prog_8_method_90_code
def yX6_count : MethodName := ⟨RX6, "count", "(I)I"⟩
abbrev cX6_finding : ByteArray := prog_8_method_91_code
def yX6_finding : MethodName := ⟨RX6, "finding", "()I"⟩
abbrev cX6_findings : ByteArray := prog_8_method_92_code
def yX6_findings : MethodName := ⟨RX6, "findings", "(I)I"⟩
abbrev cX6_digest : ByteArray := prog_8_method_93_code
def yX6_digest : MethodName := ⟨RX6, "digest", "()J"⟩
def RJ6 : String := "java/lang/Integer"
def TJ6 : u_T := fun k => match k with
  | _ => ("", "", "", false)
def tyJ6 : Nat → FieldType := fun k => match k with
  | _ => .int
abbrev wsJ60 : List Cond := u_ws RJ6 TJ6 0
theorem nmJ6 : ∀ a, a < 0 → ∀ b, b < 0 → a ≠ b → (TJ6 a).2.1 ≠ (TJ6 b).2.1 := by decide +kernel
theorem tyJ6_ok : ∀ k, k < 0 → parseFieldDescriptor (TJ6 k).2.2.1 = some (tyJ6 k) := by decide +kernel
abbrev cJ6_bitCount_0f7a4 : ByteArray := prog_9_method_49_code
def yJ6_bitCount_0f7a4 : MethodName := ⟨RJ6, "bitCount", "(I)I"⟩
def RJ9 : String := "java/lang/Math"
def TJ9 : u_T := fun k => match k with
  | _ => ("", "", "", false)
def tyJ9 : Nat → FieldType := fun k => match k with
  | _ => .int
abbrev wsJ90 : List Cond := u_ws RJ9 TJ9 0
theorem nmJ9 : ∀ a, a < 0 → ∀ b, b < 0 → a ≠ b → (TJ9 a).2.1 ≠ (TJ9 b).2.1 := by decide +kernel
theorem tyJ9_ok : ∀ k, k < 0 → parseFieldDescriptor (TJ9 k).2.2.1 = some (tyJ9 k) := by decide +kernel
abbrev cJ9_max_7cf53 : ByteArray := prog_10_method_65_code
def yJ9_max_7cf53 : MethodName := ⟨RJ9, "max", "(II)I"⟩
abbrev cJ9_min_7cf53 : ByteArray := prog_10_method_69_code
def yJ9_min_7cf53 : MethodName := ⟨RJ9, "min", "(II)I"⟩
def RJ10 : String := "java/lang/System"
def TJ10 : u_T := fun k => match k with
  | _ => ("", "", "", false)
def tyJ10 : Nat → FieldType := fun k => match k with
  | _ => .int
abbrev wsJ100 : List Cond := u_ws RJ10 TJ10 0
theorem nmJ10 : ∀ a, a < 0 → ∀ b, b < 0 → a ≠ b → (TJ10 a).2.1 ≠ (TJ10 b).2.1 := by decide +kernel
theorem tyJ10_ok : ∀ k, k < 0 → parseFieldDescriptor (TJ10 k).2.2.1 = some (tyJ10 k) := by decide +kernel
def RL : String := "BackCourtLaw"
abbrev cL_law : ByteArray := code
def yL_law : MethodName := ⟨RL, "law", "([I)Z"⟩
end
section
/-! the machine of numbers: cells, values, instructions as data -/
abbrev mm_C : Type := (Nat × List Value) ⊕ ((Nat × (Nat → Int32)) ⊕ ((Nat × Nat × (Nat → Option Nat)) ⊕ (Nat × (Nat → Int32))))
abbrev mm_H : Type := Nat × (Nat → mm_C)
abbrev mm_N : Type := Nat × Instr × Nat × Nat × Nat × Value × Bool
abbrev mm_K : Type := Option Value → mm_H → Prop
abbrev mm_X : Type := Nat → Nat → Nat → (Nat × Nat) → List Value → List Value → mm_H → mm_K → Prop
/-- an object of a kind, its fields -/
def mO (ci : Nat) (fs : List Value) : mm_C := .inl (ci, fs)
/-- an array of ints -/
def mI (n : Nat) (f : Nat → Int32) : mm_C := .inr (.inl (n, f))
/-- an array of references to objects of a kind -/
def mR (ci n : Nat) (f : Nat → Option Nat) : mm_C := .inr (.inr (.inl (ci, n, f)))
/-- an array of ints that nobody writes -/
def mE (n : Nat) (f : Nat → Int32) : mm_C := .inr (.inr (.inr (n, f)))
def mU (h : Nat → mm_C) (k : Nat) (c : mm_C) : Nat → mm_C := fun j => if j = k then c else h j
def mm_ld : List Value → Nat → (Value → Prop) → Prop
  | [], _, _ => False
  | v :: _, 0, K => K v
  | _ :: l, k + 1, K => mm_ld l k K
def mm_set : List Value → Nat → Value → (List Value → Prop) → Prop
  | [], _, _, _ => False
  | _ :: l, 0, v, K => K (v :: l)
  | a :: l, k + 1, v, K => mm_set l k v (fun l' => K (a :: l'))
def mm_st : List Value → Nat → Value → (List Value → Prop) → Prop
  | [], _, _, _ => False
  | _ :: l, 0, v, K => K (v :: l)
  | .long _ :: _, 1, _, _ => False
  | a :: l, k + 1, v, K => mm_st l k v (fun l' => K (a :: l'))
def mm_st2 : List Value → Nat → Value → (List Value → Prop) → Prop
  | [], _, _, _ => False
  | [_], _, _, _ => False
  | _ :: _ :: l, 0, v, K => K (v :: .null :: l)
  | .long _ :: _ :: _, 1, _, _ => False
  | a :: l, k + 1, v, K => mm_st2 l k v (fun l' => K (a :: l'))
def mm_ex : List Value → List Value
  | [] => []
  | .long x :: l => .long x :: .null :: mm_ex l
  | v :: l => v :: mm_ex l
def mm_ent (n : Nat) (args : List Value) : List Value := mm_ex args ++ List.replicate (n - (mm_ex args).length) .null
def mm_pop : Nat → List Value → List Value → (List Value → List Value → Prop) → Prop
  | 0, st, acc, K => K acc st
  | _ + 1, [], _, _ => False
  | n + 1, v :: st, acc, K => mm_pop n st (v :: acc) K
/-- the default fields of an object of a kind -/
def mm_def : Nat → List Value
  | 0 => [.null, .null, .null, .null, .null, .null, .int 0, .int 0]
  | 1 => [.null, .null, .null, .null, .null, .null, .int 0]
  | 2 => [.null, .null, .int 0]
  | 3 => [.null, .int 0]
  | 4 => [.null, .int 0, .int 0, .int 0, .int 0]
  | 5 => [.null, .null, .null, .null, .null, .null, .null, .null, .null, .int 0, .int 0, .long 0, .long 0]
  | 6 => [.null, .null, .null, .null, .null, .int 0, .null, .int 0, .long 0, .long 0, .int 0, .null, .null, .null, .null, .null, .null, .null, .null, .int 0, .null, .int 0, .int 0, .null, .null, .int 0, .int 0]
  | _ => []
/-- what a field of a kind may hold, told by what stands there by default: an int, a long, a reference -/
def mm_fit : Value → Value → Bool
  | .int _, .int _ => true
  | .long _, .long _ => true
  | .null, .ref _ => true
  | _, _ => false
/-- the values that locals and arguments hold -/
def mm_kd : Value → Bool
  | .int _ => true
  | .long _ => true
  | .ref _ => true
  | _ => false
def mm_akd : List Value → Bool
  | [] => true
  | v :: l => mm_kd v && mm_akd l
/-- so many cells there are when the two objects are made; none is made later -/
def mm_full : Nat := 93
end
section
/-! code as data: (place, instruction, next, a, b, constant, cut) -/
def q_X0_init_0 : List mm_N := [(0, .aload_n 0, 1, 0, 0, .null, false),
  (1, .invokespecial 3, 2, 1000, 1, .null, false),
  (4, .aload_n 0, 3, 0, 0, .null, false),
  (5, .bipush 9, 4, 0, 0, .int 9, false),
  (7, .newarray .int, 5, 0, 0, .null, false),
  (9, .putfield 9, 6, 0, 0, .null, false),
  (12, .aload_n 0, 7, 0, 0, .null, false),
  (13, .bipush 9, 8, 0, 0, .int 9, false),
  (15, .newarray .int, 9, 0, 0, .null, false),
  (17, .putfield 15, 10, 0, 1, .null, false),
  (20, .aload_n 0, 11, 0, 0, .null, false),
  (21, .bipush 9, 12, 0, 0, .int 9, false),
  (23, .newarray .int, 13, 0, 0, .null, false),
  (25, .putfield 18, 14, 0, 2, .null, false),
  (28, .aload_n 0, 15, 0, 0, .null, false),
  (29, .bipush 9, 16, 0, 0, .int 9, false),
  (31, .newarray .int, 17, 0, 0, .null, false),
  (33, .putfield 21, 18, 0, 3, .null, false),
  (36, .aload_n 0, 19, 0, 0, .null, false),
  (37, .bipush 9, 20, 0, 0, .int 9, false),
  (39, .newarray .int, 21, 0, 0, .null, false),
  (41, .putfield 24, 22, 0, 4, .null, false),
  (44, .aload_n 0, 23, 0, 0, .null, false),
  (45, .bipush 9, 24, 0, 0, .int 9, false),
  (47, .newarray .int, 25, 0, 0, .null, false),
  (49, .putfield 27, 26, 0, 5, .null, false),
  (52, .aload_n 0, 27, 0, 0, .null, false),
  (53, .iconst 0, 28, 0, 0, .int 0, false),
  (54, .putfield 30, 29, 0, 6, .null, false),
  (57, .aload_n 0, 30, 0, 0, .null, false),
  (58, .iconst 0, 31, 0, 0, .int 0, false),
  (59, .putfield 34, 32, 0, 7, .null, false)]
def q_X0_init_1 : List mm_N := [(62, .return_, 0, 0, 0, .null, false)]
def q_X0_init : List (List mm_N) := [q_X0_init_0, q_X0_init_1]
def q_X0_seat_0 : List mm_N := [(0, .aload_n 0, 1, 0, 0, .null, false),
  (1, .aload_n 1, 2, 1, 0, .null, false),
  (2, .getfield 37, 3, 1, 6, .null, false),
  (5, .putfield 34, 4, 0, 7, .null, false),
  (8, .aload_n 0, 5, 0, 0, .null, false),
  (9, .iconst 0, 6, 0, 0, .int 0, false),
  (10, .putfield 30, 7, 0, 6, .null, false),
  (13, .iconst 0, 8, 0, 0, .int 0, false),
  (14, .istore_n 2, 9, 2, 0, .null, false),
  (15, .iload_n 2, 10, 2, 0, .null, true),
  (16, .aload_n 0, 11, 0, 0, .null, false),
  (17, .getfield 34, 12, 0, 7, .null, false),
  (20, .if_icmp .ge 60, 13, 50, 0, .null, false),
  (23, .aload_n 0, 14, 0, 0, .null, false),
  (24, .getfield 9, 15, 0, 0, .null, false),
  (27, .iload_n 2, 16, 2, 0, .null, false),
  (28, .aload_n 1, 17, 1, 0, .null, false),
  (29, .getfield 40, 18, 1, 0, .null, false),
  (32, .iload_n 2, 19, 2, 0, .null, false),
  (33, .iaload, 20, 0, 0, .null, false),
  (34, .iastore, 21, 0, 0, .null, false),
  (35, .aload_n 0, 22, 0, 0, .null, false),
  (36, .getfield 15, 23, 0, 1, .null, false),
  (39, .iload_n 2, 24, 2, 0, .null, false),
  (40, .iconst 0, 25, 0, 0, .int 0, false),
  (41, .iastore, 26, 0, 0, .null, false),
  (42, .aload_n 0, 27, 0, 0, .null, false),
  (43, .getfield 18, 28, 0, 2, .null, false),
  (46, .iload_n 2, 29, 2, 0, .null, false),
  (47, .iconst 0, 30, 0, 0, .int 0, false),
  (48, .iastore, 31, 0, 0, .null, false),
  (49, .aload_n 0, 32, 0, 0, .null, false)]
def q_X0_seat_1 : List mm_N := [(50, .getfield 21, 33, 0, 3, .null, false),
  (53, .iload_n 2, 34, 2, 0, .null, false),
  (54, .iconst 0, 35, 0, 0, .int 0, false),
  (55, .iastore, 36, 0, 0, .null, false),
  (56, .aload_n 0, 37, 0, 0, .null, false),
  (57, .getfield 24, 38, 0, 4, .null, false),
  (60, .iload_n 2, 39, 2, 0, .null, false),
  (61, .aload_n 1, 40, 1, 0, .null, false),
  (62, .iload_n 2, 41, 2, 0, .null, false),
  (63, .invokevirtual 41, 42, 19, 2, .null, false),
  (66, .iastore, 43, 0, 0, .null, false),
  (67, .aload_n 0, 44, 0, 0, .null, false),
  (68, .getfield 27, 45, 0, 5, .null, false),
  (71, .iload_n 2, 46, 2, 0, .null, false),
  (72, .iconst 0, 47, 0, 0, .int 0, false),
  (73, .iastore, 48, 0, 0, .null, false),
  (74, .iinc 2 1, 49, 2, 0, .int 1, false),
  (77, .goto (-62), 0, 9, 0, .null, false),
  (80, .iconst 0, 51, 0, 0, .int 0, false),
  (81, .istore_n 2, 52, 2, 0, .null, false),
  (82, .iload_n 2, 53, 2, 0, .null, true),
  (83, .aload_n 0, 54, 0, 0, .null, false),
  (84, .getfield 34, 55, 0, 7, .null, false),
  (87, .if_icmp .ge 86, 56, 109, 0, .null, false),
  (90, .aload_n 1, 57, 1, 0, .null, false),
  (91, .getfield 45, 58, 1, 3, .null, false),
  (94, .iload_n 2, 59, 2, 0, .null, false),
  (95, .iaload, 60, 0, 0, .null, false),
  (96, .istore_n 3, 61, 3, 0, .null, false),
  (97, .iload_n 3, 62, 3, 0, .null, false),
  (98, .aload_n 0, 63, 0, 0, .null, false),
  (99, .getfield 34, 64, 0, 7, .null, false)]
def q_X0_seat_2 : List mm_N := [(102, .invokestatic 48, 65, 100, 2, .null, false),
  (105, .ifCond .eq 62, 66, 107, 0, .null, false),
  (108, .aload_n 0, 67, 0, 0, .null, false),
  (109, .getfield 21, 68, 0, 3, .null, false),
  (112, .iload_n 2, 69, 2, 0, .null, false),
  (113, .iconst 1, 70, 0, 0, .int 1, false),
  (114, .iload_n 3, 71, 3, 0, .null, false),
  (115, .ishl, 72, 0, 0, .null, false),
  (116, .iastore, 73, 0, 0, .null, false),
  (117, .aload_n 0, 74, 0, 0, .null, false),
  (118, .getfield 15, 75, 0, 1, .null, false),
  (121, .iload_n 3, 76, 3, 0, .null, false),
  (122, .dup2, 77, 0, 0, .null, false),
  (123, .iaload, 78, 0, 0, .null, false),
  (124, .aload_n 1, 79, 1, 0, .null, false),
  (125, .getfield 52, 80, 1, 4, .null, false),
  (128, .iload_n 2, 81, 2, 0, .null, false),
  (129, .iaload, 82, 0, 0, .null, false),
  (130, .ifCond .ge 9, 83, 87, 0, .null, false),
  (133, .iconst 1, 84, 0, 0, .int 1, false),
  (134, .iload_n 2, 85, 2, 0, .null, false),
  (135, .ishl, 86, 0, 0, .null, false),
  (136, .goto 4, 0, 88, 0, .null, false),
  (139, .iconst 0, 88, 0, 0, .int 0, false),
  (140, .ior, 89, 0, 0, .null, true),
  (141, .iastore, 90, 0, 0, .null, false),
  (142, .aload_n 0, 91, 0, 0, .null, false),
  (143, .getfield 18, 92, 0, 2, .null, false),
  (146, .iload_n 3, 93, 3, 0, .null, false),
  (147, .dup2, 94, 0, 0, .null, false),
  (148, .iaload, 95, 0, 0, .null, false),
  (149, .aload_n 1, 96, 1, 0, .null, false)]
def q_X0_seat_3 : List mm_N := [(150, .getfield 52, 97, 1, 4, .null, false),
  (153, .iload_n 2, 98, 2, 0, .null, false),
  (154, .iaload, 99, 0, 0, .null, false),
  (155, .ifCond .le 9, 100, 104, 0, .null, false),
  (158, .iconst 1, 101, 0, 0, .int 1, false),
  (159, .iload_n 2, 102, 2, 0, .null, false),
  (160, .ishl, 103, 0, 0, .null, false),
  (161, .goto 4, 0, 105, 0, .null, false),
  (164, .iconst 0, 105, 0, 0, .int 0, false),
  (165, .ior, 106, 0, 0, .null, true),
  (166, .iastore, 107, 0, 0, .null, false),
  (167, .iinc 2 1, 108, 2, 0, .int 1, true),
  (170, .goto (-88), 0, 52, 0, .null, false),
  (173, .return_, 0, 0, 0, .null, false)]
def q_X0_seat : List (List mm_N) := [q_X0_seat_0, q_X0_seat_1, q_X0_seat_2, q_X0_seat_3]
def q_X0_forgetCitation_0 : List mm_N := [(0, .iconst 0, 1, 0, 0, .int 0, false),
  (1, .istore_n 2, 2, 2, 0, .null, false),
  (2, .iload_n 2, 3, 2, 0, .null, true),
  (3, .aload_n 0, 4, 0, 0, .null, false),
  (4, .getfield 34, 5, 0, 7, .null, false),
  (7, .if_icmp .ge 37, 6, 32, 0, .null, false),
  (10, .aload_n 0, 7, 0, 0, .null, false),
  (11, .getfield 15, 8, 0, 1, .null, false),
  (14, .iload_n 2, 9, 2, 0, .null, false),
  (15, .dup2, 10, 0, 0, .null, false),
  (16, .iaload, 11, 0, 0, .null, false),
  (17, .iconst 1, 12, 0, 0, .int 1, false),
  (18, .iload_n 1, 13, 1, 0, .null, false),
  (19, .ishl, 14, 0, 0, .null, false),
  (20, .iconst (-1), 15, 0, 0, .int (-1), false),
  (21, .ixor, 16, 0, 0, .null, false),
  (22, .iand, 17, 0, 0, .null, false),
  (23, .iastore, 18, 0, 0, .null, false),
  (24, .aload_n 0, 19, 0, 0, .null, false),
  (25, .getfield 18, 20, 0, 2, .null, false),
  (28, .iload_n 2, 21, 2, 0, .null, false),
  (29, .dup2, 22, 0, 0, .null, false),
  (30, .iaload, 23, 0, 0, .null, false),
  (31, .iconst 1, 24, 0, 0, .int 1, false),
  (32, .iload_n 1, 25, 1, 0, .null, false),
  (33, .ishl, 26, 0, 0, .null, false),
  (34, .iconst (-1), 27, 0, 0, .int (-1), false),
  (35, .ixor, 28, 0, 0, .null, false),
  (36, .iand, 29, 0, 0, .null, false),
  (37, .iastore, 30, 0, 0, .null, false),
  (38, .iinc 2 1, 31, 2, 0, .int 1, false),
  (41, .goto (-39), 0, 2, 0, .null, false)]
def q_X0_forgetCitation_1 : List mm_N := [(44, .iload_n 1, 33, 1, 0, .null, false),
  (45, .aload_n 0, 34, 0, 0, .null, false),
  (46, .getfield 34, 35, 0, 7, .null, false),
  (49, .invokestatic 48, 36, 100, 2, .null, false),
  (52, .ifCond .eq 10, 37, 42, 0, .null, false),
  (55, .aload_n 0, 38, 0, 0, .null, false),
  (56, .getfield 21, 39, 0, 3, .null, false),
  (59, .iload_n 1, 40, 1, 0, .null, false),
  (60, .iconst 0, 41, 0, 0, .int 0, false),
  (61, .iastore, 42, 0, 0, .null, false),
  (62, .return_, 0, 0, 0, .null, true)]
def q_X0_forgetCitation : List (List mm_N) := [q_X0_forgetCitation_0, q_X0_forgetCitation_1]
def q_X0_isMovedByOneMore_0 : List mm_N := [(0, .aload_n 0, 1, 0, 0, .null, false),
  (1, .getfield 9, 2, 0, 0, .null, false),
  (4, .iload_n 1, 3, 1, 0, .null, false),
  (5, .iaload, 4, 0, 0, .null, false),
  (6, .iconst 5, 5, 0, 0, .int 5, false),
  (7, .if_icmp .eq 31, 6, 22, 0, .null, false),
  (10, .aload_n 0, 7, 0, 0, .null, false),
  (11, .getfield 27, 8, 0, 5, .null, false),
  (14, .iload_n 1, 9, 1, 0, .null, false),
  (15, .iaload, 10, 0, 0, .null, false),
  (16, .aload_n 0, 11, 0, 0, .null, false),
  (17, .getfield 9, 12, 0, 0, .null, false),
  (20, .iload_n 1, 13, 1, 0, .null, false),
  (21, .iaload, 14, 0, 0, .null, false),
  (22, .iconst 2, 15, 0, 0, .int 2, false),
  (23, .if_icmp .ne 7, 16, 18, 0, .null, false),
  (26, .iconst 2, 17, 0, 0, .int 2, false),
  (27, .goto 4, 0, 19, 0, .null, false),
  (30, .iconst 1, 19, 0, 0, .int 1, false),
  (31, .if_icmp .ge 7, 20, 22, 0, .null, true),
  (34, .iconst 1, 21, 0, 0, .int 1, false),
  (35, .goto 4, 0, 23, 0, .null, false),
  (38, .iconst 0, 23, 0, 0, .int 0, true),
  (39, .ireturn, 0, 0, 0, .null, true)]
def q_X0_isMovedByOneMore : List (List mm_N) := [q_X0_isMovedByOneMore_0]
def q_X0_isToStand_0 : List mm_N := [(0, .aload_n 0, 1, 0, 0, .null, false),
  (1, .getfield 30, 2, 0, 6, .null, false),
  (4, .iload_n 1, 3, 1, 0, .null, false),
  (5, .invokestatic 55, 4, 101, 2, .null, false),
  (8, .ifCond .eq 5, 5, 7, 0, .null, false),
  (11, .iconst 0, 6, 0, 0, .int 0, false),
  (12, .ireturn, 0, 0, 0, .null, false),
  (13, .aload_n 0, 8, 0, 0, .null, false),
  (14, .getfield 15, 9, 0, 1, .null, false),
  (17, .iload_n 1, 10, 1, 0, .null, false),
  (18, .iaload, 11, 0, 0, .null, false),
  (19, .iload_n 2, 12, 2, 0, .null, false),
  (20, .iand, 13, 0, 0, .null, false),
  (21, .invokestatic 58, 14, 208, 1, .null, false),
  (24, .aload_n 0, 15, 0, 0, .null, false),
  (25, .getfield 27, 16, 0, 5, .null, false),
  (28, .iload_n 1, 17, 1, 0, .null, false),
  (29, .iaload, 18, 0, 0, .null, false),
  (30, .iadd, 19, 0, 0, .null, false),
  (31, .istore_n 3, 20, 3, 0, .null, false),
  (32, .aload_n 0, 21, 0, 0, .null, false),
  (33, .getfield 9, 22, 0, 0, .null, false),
  (36, .iload_n 1, 23, 1, 0, .null, false),
  (37, .iaload, 24, 0, 0, .null, false),
  (38, .tableswitch 125 1 5 #[34, 57, 68, 89, 123], 0, 0, 84, .null, false),
  (72, .iload_n 3, 26, 3, 0, .null, false),
  (73, .ifCond .ne 20, 27, 38, 0, .null, false),
  (76, .aload_n 0, 28, 0, 0, .null, false),
  (77, .getfield 21, 29, 0, 3, .null, false),
  (80, .iload_n 1, 30, 1, 0, .null, false),
  (81, .iaload, 31, 0, 0, .null, false),
  (82, .iload_n 2, 32, 2, 0, .null, false)]
def q_X0_isToStand_1 : List mm_N := [(83, .iconst (-1), 33, 0, 0, .int (-1), false),
  (84, .ixor, 34, 0, 0, .null, false),
  (85, .iand, 35, 0, 0, .null, false),
  (86, .ifCond .ne 7, 36, 38, 0, .null, false),
  (89, .iconst 1, 37, 0, 0, .int 1, false),
  (90, .goto 4, 0, 39, 0, .null, false),
  (93, .iconst 0, 39, 0, 0, .int 0, true),
  (94, .ireturn, 0, 0, 0, .null, true),
  (95, .iload_n 3, 41, 3, 0, .null, false),
  (96, .iconst 2, 42, 0, 0, .int 2, false),
  (97, .if_icmp .ge 7, 43, 45, 0, .null, false),
  (100, .iconst 1, 44, 0, 0, .int 1, false),
  (101, .goto 4, 0, 46, 0, .null, false),
  (104, .iconst 0, 46, 0, 0, .int 0, false),
  (105, .ireturn, 0, 0, 0, .null, true),
  (106, .iload_n 3, 48, 3, 0, .null, false),
  (107, .ifCond .ne 18, 49, 58, 0, .null, false),
  (110, .aload_n 0, 50, 0, 0, .null, false),
  (111, .getfield 18, 51, 0, 2, .null, false),
  (114, .iload_n 1, 52, 1, 0, .null, false),
  (115, .iaload, 53, 0, 0, .null, false),
  (116, .iload_n 2, 54, 2, 0, .null, false),
  (117, .iand, 55, 0, 0, .null, false),
  (118, .ifCond .eq 7, 56, 58, 0, .null, false),
  (121, .iconst 1, 57, 0, 0, .int 1, false),
  (122, .goto 4, 0, 59, 0, .null, false),
  (125, .iconst 0, 59, 0, 0, .int 0, true),
  (126, .ireturn, 0, 0, 0, .null, true),
  (127, .iload_n 3, 61, 3, 0, .null, false),
  (128, .ifCond .ne 31, 62, 80, 0, .null, false),
  (131, .aload_n 0, 63, 0, 0, .null, false),
  (132, .getfield 21, 64, 0, 3, .null, false)]
def q_X0_isToStand_2 : List mm_N := [(135, .iload_n 1, 65, 1, 0, .null, false),
  (136, .iaload, 66, 0, 0, .null, false),
  (137, .iload_n 2, 67, 2, 0, .null, false),
  (138, .iconst (-1), 68, 0, 0, .int (-1), false),
  (139, .ixor, 69, 0, 0, .null, false),
  (140, .iand, 70, 0, 0, .null, false),
  (141, .ifCond .ne 18, 71, 80, 0, .null, false),
  (144, .aload_n 0, 72, 0, 0, .null, false),
  (145, .getfield 24, 73, 0, 4, .null, false),
  (148, .iload_n 1, 74, 1, 0, .null, false),
  (149, .iaload, 75, 0, 0, .null, false),
  (150, .iload_n 2, 76, 2, 0, .null, false),
  (151, .iand, 77, 0, 0, .null, false),
  (152, .ifCond .eq 7, 78, 80, 0, .null, false),
  (155, .iconst 1, 79, 0, 0, .int 1, false),
  (156, .goto 4, 0, 81, 0, .null, false),
  (159, .iconst 0, 81, 0, 0, .int 0, true),
  (160, .ireturn, 0, 0, 0, .null, true),
  (161, .iconst 1, 83, 0, 0, .int 1, false),
  (162, .ireturn, 0, 0, 0, .null, false),
  (163, .iload_n 3, 85, 3, 0, .null, false),
  (164, .ifCond .ne 7, 86, 88, 0, .null, false),
  (167, .iconst 1, 87, 0, 0, .int 1, false),
  (168, .goto 4, 0, 89, 0, .null, false),
  (171, .iconst 0, 89, 0, 0, .int 0, false),
  (172, .ireturn, 0, 0, 0, .null, true)]
def q_X0_isToStand : List (List mm_N) := [q_X0_isToStand_0, q_X0_isToStand_1, q_X0_isToStand_2]
def q_X0_clash_0 : List mm_N := [(0, .aload_n 0, 1, 0, 0, .null, false),
  (1, .getfield 34, 2, 0, 7, .null, false),
  (4, .iconst 1, 3, 0, 0, .int 1, false),
  (5, .isub, 4, 0, 0, .null, false),
  (6, .istore_n 2, 5, 2, 0, .null, false),
  (7, .iload_n 2, 6, 2, 0, .null, true),
  (8, .ifCond .lt 34, 7, 26, 0, .null, false),
  (11, .aload_n 0, 8, 0, 0, .null, false),
  (12, .iload_n 2, 9, 2, 0, .null, false),
  (13, .iload_n 1, 10, 1, 0, .null, false),
  (14, .invokevirtual 63, 11, 4, 3, .null, false),
  (17, .iload_n 1, 12, 1, 0, .null, false),
  (18, .iload_n 2, 13, 2, 0, .null, false),
  (19, .invokestatic 55, 14, 101, 2, .null, false),
  (22, .if_icmp .eq 14, 15, 24, 0, .null, false),
  (25, .aload_n 0, 16, 0, 0, .null, false),
  (26, .iload_n 2, 17, 2, 0, .null, false),
  (27, .invokevirtual 66, 18, 6, 2, .null, false),
  (30, .istore_n 3, 19, 3, 0, .null, false),
  (31, .iload_n 3, 20, 3, 0, .null, false),
  (32, .iload_n 3, 21, 3, 0, .null, false),
  (33, .ineg, 22, 0, 0, .null, false),
  (34, .iand, 23, 0, 0, .null, false),
  (35, .ireturn, 0, 0, 0, .null, false),
  (36, .iinc 2 (-1), 25, 2, 0, .int (-1), false),
  (39, .goto (-32), 0, 5, 0, .null, false),
  (42, .iconst 0, 27, 0, 0, .int 0, false),
  (43, .ireturn, 0, 0, 0, .null, false)]
def q_X0_clash : List (List mm_N) := [q_X0_clash_0]
def q_X0_mattersTo_0 : List mm_N := [(0, .iconst 1, 1, 0, 0, .int 1, false),
  (1, .iload_n 1, 2, 1, 0, .null, false),
  (2, .ishl, 3, 0, 0, .null, false),
  (3, .istore_n 2, 4, 2, 0, .null, false),
  (4, .aload_n 0, 5, 0, 0, .null, false),
  (5, .getfield 9, 6, 0, 0, .null, false),
  (8, .iload_n 1, 7, 1, 0, .null, false),
  (9, .iaload, 8, 0, 0, .null, false),
  (10, .iconst 1, 9, 0, 0, .int 1, false),
  (11, .invokestatic 69, 10, 102, 2, .null, false),
  (14, .ifCond .eq 12, 11, 18, 0, .null, false),
  (17, .iload_n 2, 12, 2, 0, .null, false),
  (18, .aload_n 0, 13, 0, 0, .null, false),
  (19, .getfield 21, 14, 0, 3, .null, false),
  (22, .iload_n 1, 15, 1, 0, .null, false),
  (23, .iaload, 16, 0, 0, .null, false),
  (24, .ior, 17, 0, 0, .null, false),
  (25, .istore_n 2, 18, 2, 0, .null, false),
  (26, .aload_n 0, 19, 0, 0, .null, true),
  (27, .getfield 9, 20, 0, 0, .null, false),
  (30, .iload_n 1, 21, 1, 0, .null, false),
  (31, .iaload, 22, 0, 0, .null, false),
  (32, .iconst 4, 23, 0, 0, .int 4, false),
  (33, .if_icmp .ne 12, 24, 31, 0, .null, false),
  (36, .iload_n 2, 25, 2, 0, .null, false),
  (37, .aload_n 0, 26, 0, 0, .null, false),
  (38, .getfield 24, 27, 0, 4, .null, false),
  (41, .iload_n 1, 28, 1, 0, .null, false),
  (42, .iaload, 29, 0, 0, .null, false),
  (43, .ior, 30, 0, 0, .null, false),
  (44, .istore_n 2, 31, 2, 0, .null, false),
  (45, .iload_n 2, 32, 2, 0, .null, true)]
def q_X0_mattersTo_1 : List mm_N := [(46, .ireturn, 0, 0, 0, .null, false)]
def q_X0_mattersTo : List (List mm_N) := [q_X0_mattersTo_0, q_X0_mattersTo_1]
def q_X1_init_0 : List mm_N := [(0, .aload_n 0, 1, 0, 0, .null, false),
  (1, .invokespecial 3, 2, 1000, 1, .null, false),
  (4, .aload_n 0, 3, 0, 0, .null, false),
  (5, .bipush 9, 4, 0, 0, .int 9, false),
  (7, .newarray .int, 5, 0, 0, .null, false),
  (9, .putfield 9, 6, 1, 0, .null, false),
  (12, .aload_n 0, 7, 0, 0, .null, false),
  (13, .bipush 9, 8, 0, 0, .int 9, false),
  (15, .newarray .int, 9, 0, 0, .null, false),
  (17, .putfield 15, 10, 1, 1, .null, false),
  (20, .aload_n 0, 11, 0, 0, .null, false),
  (21, .bipush 9, 12, 0, 0, .int 9, false),
  (23, .newarray .int, 13, 0, 0, .null, false),
  (25, .putfield 18, 14, 1, 2, .null, false),
  (28, .aload_n 0, 15, 0, 0, .null, false),
  (29, .bipush 9, 16, 0, 0, .int 9, false),
  (31, .newarray .int, 17, 0, 0, .null, false),
  (33, .putfield 21, 18, 1, 3, .null, false),
  (36, .aload_n 0, 19, 0, 0, .null, false),
  (37, .bipush 9, 20, 0, 0, .int 9, false),
  (39, .newarray .int, 21, 0, 0, .null, false),
  (41, .putfield 24, 22, 1, 4, .null, false),
  (44, .aload_n 0, 23, 0, 0, .null, false),
  (45, .bipush 9, 24, 0, 0, .int 9, false),
  (47, .newarray .int, 25, 0, 0, .null, false),
  (49, .putfield 27, 26, 1, 5, .null, false),
  (52, .aload_n 0, 27, 0, 0, .null, false),
  (53, .iconst 0, 28, 0, 0, .int 0, false),
  (54, .putfield 30, 29, 1, 6, .null, false),
  (57, .return_, 0, 0, 0, .null, false)]
def q_X1_init : List (List mm_N) := [q_X1_init_0]
def q_X1_has_0 : List mm_N := [(0, .iload_n 1, 1, 1, 0, .null, false),
  (1, .aload_n 0, 2, 0, 0, .null, false),
  (2, .getfield 30, 3, 1, 6, .null, false),
  (5, .invokestatic 34, 4, 100, 2, .null, false),
  (8, .ireturn, 0, 0, 0, .null, false)]
def q_X1_has : List (List mm_N) := [q_X1_has_0]
def q_X1_everyRuling_0 : List mm_N := [(0, .iconst 1, 1, 0, 0, .int 1, false),
  (1, .aload_n 0, 2, 0, 0, .null, false),
  (2, .getfield 30, 3, 1, 6, .null, false),
  (5, .ishl, 4, 0, 0, .null, false),
  (6, .iconst 1, 5, 0, 0, .int 1, false),
  (7, .isub, 6, 0, 0, .null, false),
  (8, .ireturn, 0, 0, 0, .null, false)]
def q_X1_everyRuling : List (List mm_N) := [q_X1_everyRuling_0]
def q_X1_canBeCited_0 : List mm_N := [(0, .aload_n 0, 1, 0, 0, .null, false),
  (1, .iload_n 1, 2, 1, 0, .null, false),
  (2, .invokevirtual 38, 3, 8, 2, .null, false),
  (5, .ifCond .eq 17, 4, 12, 0, .null, false),
  (8, .aload_n 0, 5, 0, 0, .null, false),
  (9, .getfield 15, 6, 1, 1, .null, false),
  (12, .iload_n 1, 7, 1, 0, .null, false),
  (13, .iaload, 8, 0, 0, .null, false),
  (14, .iload_n 2, 9, 2, 0, .null, false),
  (15, .if_icmp .ge 7, 10, 12, 0, .null, false),
  (18, .iconst 1, 11, 0, 0, .int 1, false),
  (19, .goto 4, 0, 13, 0, .null, false),
  (22, .iconst 0, 13, 0, 0, .int 0, true),
  (23, .ireturn, 0, 0, 0, .null, true)]
def q_X1_canBeCited : List (List mm_N) := [q_X1_canBeCited_0]
def q_X1_citable_0 : List mm_N := [(0, .iload_n 1, 1, 1, 0, .null, false),
  (1, .istore_n 3, 2, 3, 0, .null, false),
  (2, .iconst 0, 3, 0, 0, .int 0, false),
  (3, .istore 4, 4, 4, 0, .null, false),
  (5, .iload 4, 5, 4, 0, .null, true),
  (7, .aload_n 0, 6, 0, 0, .null, false),
  (8, .getfield 30, 7, 1, 6, .null, false),
  (11, .if_icmp .ge 29, 8, 20, 0, .null, false),
  (14, .aload_n 0, 9, 0, 0, .null, false),
  (15, .iload 4, 10, 4, 0, .null, false),
  (17, .iload_n 2, 11, 2, 0, .null, false),
  (18, .invokevirtual 42, 12, 10, 3, .null, false),
  (21, .ifCond .eq 13, 13, 18, 0, .null, false),
  (24, .iload_n 3, 14, 3, 0, .null, false),
  (25, .ifCond .ne 6, 15, 17, 0, .null, false),
  (28, .iload 4, 16, 4, 0, .null, false),
  (30, .ireturn, 0, 0, 0, .null, false),
  (31, .iinc 3 (-1), 18, 3, 0, .int (-1), false),
  (34, .iinc 4 1, 19, 4, 0, .int 1, true),
  (37, .goto (-32), 0, 4, 0, .null, false),
  (40, .bipush (-9), 21, 0, 0, .int (-9), false),
  (42, .ireturn, 0, 0, 0, .null, false)]
def q_X1_citable : List (List mm_N) := [q_X1_citable_0]
def q_X1_add_0 : List mm_N := [(0, .aload_n 0, 1, 0, 0, .null, false),
  (1, .getfield 30, 2, 1, 6, .null, false),
  (4, .bipush 9, 3, 0, 0, .int 9, false),
  (6, .if_icmp .ge 76, 4, 46, 0, .null, false),
  (9, .aload_n 0, 5, 0, 0, .null, false),
  (10, .getfield 9, 6, 1, 0, .null, false),
  (13, .aload_n 0, 7, 0, 0, .null, false),
  (14, .getfield 30, 8, 1, 6, .null, false),
  (17, .iload_n 1, 9, 1, 0, .null, false),
  (18, .iastore, 10, 0, 0, .null, false),
  (19, .aload_n 0, 11, 0, 0, .null, false),
  (20, .getfield 15, 12, 1, 1, .null, false),
  (23, .aload_n 0, 13, 0, 0, .null, false),
  (24, .getfield 30, 14, 1, 6, .null, false),
  (27, .iload_n 2, 15, 2, 0, .null, false),
  (28, .iastore, 16, 0, 0, .null, false),
  (29, .aload_n 0, 17, 0, 0, .null, false),
  (30, .getfield 18, 18, 1, 2, .null, false),
  (33, .aload_n 0, 19, 0, 0, .null, false),
  (34, .getfield 30, 20, 1, 6, .null, false),
  (37, .iload_n 3, 21, 3, 0, .null, false),
  (38, .iastore, 22, 0, 0, .null, false),
  (39, .aload_n 0, 23, 0, 0, .null, false),
  (40, .getfield 21, 24, 1, 3, .null, false),
  (43, .aload_n 0, 25, 0, 0, .null, false),
  (44, .getfield 30, 26, 1, 6, .null, false),
  (47, .iload 4, 27, 4, 0, .null, false),
  (49, .iastore, 28, 0, 0, .null, false),
  (50, .aload_n 0, 29, 0, 0, .null, false),
  (51, .getfield 24, 30, 1, 4, .null, false),
  (54, .aload_n 0, 31, 0, 0, .null, false),
  (55, .getfield 30, 32, 1, 6, .null, false)]
def q_X1_add_1 : List mm_N := [(58, .iload 5, 33, 5, 0, .null, false),
  (60, .iastore, 34, 0, 0, .null, false),
  (61, .aload_n 0, 35, 0, 0, .null, false),
  (62, .getfield 27, 36, 1, 5, .null, false),
  (65, .aload_n 0, 37, 0, 0, .null, false),
  (66, .getfield 30, 38, 1, 6, .null, false),
  (69, .iload 6, 39, 6, 0, .null, false),
  (71, .iastore, 40, 0, 0, .null, false),
  (72, .aload_n 0, 41, 0, 0, .null, false),
  (73, .dup, 42, 0, 0, .null, false),
  (74, .getfield 30, 43, 1, 6, .null, false),
  (77, .iconst 1, 44, 0, 0, .int 1, false),
  (78, .iadd, 45, 0, 0, .null, false),
  (79, .putfield 30, 46, 1, 6, .null, false),
  (82, .return_, 0, 0, 0, .null, true)]
def q_X1_add : List (List mm_N) := [q_X1_add_0, q_X1_add_1]
def q_X1_cutTo_0 : List mm_N := [(0, .iload_n 1, 1, 1, 0, .null, false),
  (1, .aload_n 0, 2, 0, 0, .null, false),
  (2, .getfield 30, 3, 1, 6, .null, false),
  (5, .invokestatic 34, 4, 100, 2, .null, false),
  (8, .ifCond .eq 8, 5, 8, 0, .null, false),
  (11, .aload_n 0, 6, 0, 0, .null, false),
  (12, .iload_n 1, 7, 1, 0, .null, false),
  (13, .putfield 30, 8, 1, 6, .null, false),
  (16, .return_, 0, 0, 0, .null, true)]
def q_X1_cutTo : List (List mm_N) := [q_X1_cutTo_0]
def q_X1_become_0 : List mm_N := [(0, .aload_n 0, 1, 0, 0, .null, false),
  (1, .iconst 0, 2, 0, 0, .int 0, false),
  (2, .invokevirtual 45, 3, 13, 2, .null, false),
  (5, .iconst 0, 4, 0, 0, .int 0, false),
  (6, .istore_n 2, 5, 2, 0, .null, false),
  (7, .iload_n 2, 6, 2, 0, .null, true),
  (8, .aload_n 1, 7, 1, 0, .null, false),
  (9, .getfield 30, 8, 1, 6, .null, false),
  (12, .if_icmp .ge 49, 9, 37, 0, .null, false),
  (15, .aload_n 0, 10, 0, 0, .null, false),
  (16, .aload_n 1, 11, 1, 0, .null, false),
  (17, .getfield 9, 12, 1, 0, .null, false),
  (20, .iload_n 2, 13, 2, 0, .null, false),
  (21, .iaload, 14, 0, 0, .null, false),
  (22, .aload_n 1, 15, 1, 0, .null, false),
  (23, .getfield 15, 16, 1, 1, .null, false),
  (26, .iload_n 2, 17, 2, 0, .null, false),
  (27, .iaload, 18, 0, 0, .null, false),
  (28, .aload_n 1, 19, 1, 0, .null, false),
  (29, .getfield 18, 20, 1, 2, .null, false),
  (32, .iload_n 2, 21, 2, 0, .null, false),
  (33, .iaload, 22, 0, 0, .null, false),
  (34, .aload_n 1, 23, 1, 0, .null, false),
  (35, .getfield 21, 24, 1, 3, .null, false),
  (38, .iload_n 2, 25, 2, 0, .null, false),
  (39, .iaload, 26, 0, 0, .null, false),
  (40, .aload_n 1, 27, 1, 0, .null, false),
  (41, .getfield 24, 28, 1, 4, .null, false),
  (44, .iload_n 2, 29, 2, 0, .null, false),
  (45, .iaload, 30, 0, 0, .null, false),
  (46, .aload_n 1, 31, 1, 0, .null, false),
  (47, .getfield 27, 32, 1, 5, .null, false)]
def q_X1_become_1 : List mm_N := [(50, .iload_n 2, 33, 2, 0, .null, false),
  (51, .iaload, 34, 0, 0, .null, false),
  (52, .invokevirtual 49, 35, 12, 7, .null, false),
  (55, .iinc 2 1, 36, 2, 0, .int 1, false),
  (58, .goto (-51), 0, 5, 0, .null, false),
  (61, .return_, 0, 0, 0, .null, false)]
def q_X1_become : List (List mm_N) := [q_X1_become_0, q_X1_become_1]
def q_X1_detail_0 : List mm_N := [(0, .iload_n 2, 1, 2, 0, .null, false),
  (1, .tableswitch 81 0 5 #[39, 46, 53, 60, 67, 74], 0, 0, 32, .null, false),
  (40, .aload_n 0, 3, 0, 0, .null, false),
  (41, .getfield 9, 4, 1, 0, .null, false),
  (44, .iload_n 1, 5, 1, 0, .null, false),
  (45, .iaload, 6, 0, 0, .null, false),
  (46, .ireturn, 0, 0, 0, .null, false),
  (47, .aload_n 0, 8, 0, 0, .null, false),
  (48, .getfield 15, 9, 1, 1, .null, false),
  (51, .iload_n 1, 10, 1, 0, .null, false),
  (52, .iaload, 11, 0, 0, .null, false),
  (53, .ireturn, 0, 0, 0, .null, false),
  (54, .aload_n 0, 13, 0, 0, .null, false),
  (55, .getfield 18, 14, 1, 2, .null, false),
  (58, .iload_n 1, 15, 1, 0, .null, false),
  (59, .iaload, 16, 0, 0, .null, false),
  (60, .ireturn, 0, 0, 0, .null, false),
  (61, .aload_n 0, 18, 0, 0, .null, false),
  (62, .getfield 21, 19, 1, 3, .null, false),
  (65, .iload_n 1, 20, 1, 0, .null, false),
  (66, .iaload, 21, 0, 0, .null, false),
  (67, .ireturn, 0, 0, 0, .null, false),
  (68, .aload_n 0, 23, 0, 0, .null, false),
  (69, .getfield 24, 24, 1, 4, .null, false),
  (72, .iload_n 1, 25, 1, 0, .null, false),
  (73, .iaload, 26, 0, 0, .null, false),
  (74, .ireturn, 0, 0, 0, .null, false),
  (75, .aload_n 0, 28, 0, 0, .null, false),
  (76, .getfield 27, 29, 1, 5, .null, false),
  (79, .iload_n 1, 30, 1, 0, .null, false),
  (80, .iaload, 31, 0, 0, .null, false),
  (81, .ireturn, 0, 0, 0, .null, false)]
def q_X1_detail_1 : List mm_N := [(82, .aload_n 0, 33, 0, 0, .null, false),
  (83, .iload_n 1, 34, 1, 0, .null, false),
  (84, .iconst 1, 35, 0, 0, .int 1, false),
  (85, .invokevirtual 53, 36, 16, 3, .null, false),
  (88, .aload_n 0, 37, 0, 0, .null, false),
  (89, .iload_n 1, 38, 1, 0, .null, false),
  (90, .iconst (-1), 39, 0, 0, .int (-1), false),
  (91, .invokevirtual 53, 40, 16, 3, .null, false),
  (94, .iadd, 41, 0, 0, .null, false),
  (95, .ireturn, 0, 0, 0, .null, false)]
def q_X1_detail : List (List mm_N) := [q_X1_detail_0, q_X1_detail_1]
def q_X1_citations_0 : List mm_N := [(0, .iconst 0, 1, 0, 0, .int 0, false),
  (1, .istore_n 3, 2, 3, 0, .null, false),
  (2, .iconst 0, 3, 0, 0, .int 0, false),
  (3, .istore 4, 4, 4, 0, .null, false),
  (5, .iload 4, 5, 4, 0, .null, true),
  (7, .aload_n 0, 6, 0, 0, .null, false),
  (8, .getfield 30, 7, 1, 6, .null, false),
  (11, .if_icmp .ge 39, 8, 28, 0, .null, false),
  (14, .iload_n 3, 9, 3, 0, .null, false),
  (15, .aload_n 0, 10, 0, 0, .null, false),
  (16, .getfield 21, 11, 1, 3, .null, false),
  (19, .iload 4, 12, 4, 0, .null, false),
  (21, .iaload, 13, 0, 0, .null, false),
  (22, .iload_n 1, 14, 1, 0, .null, false),
  (23, .if_icmp .ne 18, 15, 23, 0, .null, false),
  (26, .aload_n 0, 16, 0, 0, .null, false),
  (27, .getfield 24, 17, 1, 4, .null, false),
  (30, .iload 4, 18, 4, 0, .null, false),
  (32, .iaload, 19, 0, 0, .null, false),
  (33, .iload_n 2, 20, 2, 0, .null, false),
  (34, .if_icmp .ne 7, 21, 23, 0, .null, false),
  (37, .iconst 1, 22, 0, 0, .int 1, false),
  (38, .goto 4, 0, 24, 0, .null, false),
  (41, .iconst 0, 24, 0, 0, .int 0, true),
  (42, .iadd, 25, 0, 0, .null, true),
  (43, .istore_n 3, 26, 3, 0, .null, false),
  (44, .iinc 4 1, 27, 4, 0, .int 1, false),
  (47, .goto (-42), 0, 4, 0, .null, false),
  (50, .iload_n 3, 29, 3, 0, .null, false),
  (51, .ireturn, 0, 0, 0, .null, false)]
def q_X1_citations : List (List mm_N) := [q_X1_citations_0]
def q_X1_dependsOn_0 : List mm_N := [(0, .iconst 0, 1, 0, 0, .int 0, false),
  (1, .istore_n 2, 2, 2, 0, .null, false),
  (2, .aload_n 0, 3, 0, 0, .null, false),
  (3, .iload_n 1, 4, 1, 0, .null, false),
  (4, .invokevirtual 38, 5, 8, 2, .null, false),
  (7, .ifCond .eq 12, 6, 11, 0, .null, false),
  (10, .aload_n 0, 7, 0, 0, .null, false),
  (11, .getfield 21, 8, 1, 3, .null, false),
  (14, .iload_n 1, 9, 1, 0, .null, false),
  (15, .iaload, 10, 0, 0, .null, false),
  (16, .goto 5, 0, 12, 0, .null, false),
  (19, .bipush (-9), 12, 0, 0, .int (-9), false),
  (21, .istore_n 3, 13, 3, 0, .null, true),
  (22, .aload_n 0, 14, 0, 0, .null, true),
  (23, .iload_n 3, 15, 3, 0, .null, false),
  (24, .invokevirtual 38, 16, 8, 2, .null, false),
  (27, .ifCond .eq 22, 17, 27, 0, .null, false),
  (30, .iload_n 2, 18, 2, 0, .null, false),
  (31, .bipush 9, 19, 0, 0, .int 9, false),
  (33, .if_icmp .ge 16, 20, 27, 0, .null, false),
  (36, .iinc 2 1, 21, 2, 0, .int 1, false),
  (39, .aload_n 0, 22, 0, 0, .null, false),
  (40, .getfield 21, 23, 1, 3, .null, false),
  (43, .iload_n 3, 24, 3, 0, .null, false),
  (44, .iaload, 25, 0, 0, .null, false),
  (45, .istore_n 3, 26, 3, 0, .null, false),
  (46, .goto (-24), 0, 13, 0, .null, false),
  (49, .iload_n 2, 28, 2, 0, .null, true),
  (50, .ireturn, 0, 0, 0, .null, false)]
def q_X1_dependsOn : List (List mm_N) := [q_X1_dependsOn_0]
def q_X1_ofDay_0 : List mm_N := [(0, .iconst 0, 1, 0, 0, .int 0, false),
  (1, .istore_n 2, 2, 2, 0, .null, false),
  (2, .iconst 0, 3, 0, 0, .int 0, false),
  (3, .istore_n 3, 4, 3, 0, .null, false),
  (4, .iload_n 3, 5, 3, 0, .null, true),
  (5, .aload_n 0, 6, 0, 0, .null, false),
  (6, .getfield 30, 7, 1, 6, .null, false),
  (9, .if_icmp .ge 29, 8, 24, 0, .null, false),
  (12, .iload_n 2, 9, 2, 0, .null, false),
  (13, .aload_n 0, 10, 0, 0, .null, false),
  (14, .getfield 15, 11, 1, 1, .null, false),
  (17, .iload_n 3, 12, 3, 0, .null, false),
  (18, .iaload, 13, 0, 0, .null, false),
  (19, .iload_n 1, 14, 1, 0, .null, false),
  (20, .if_icmp .ne 9, 15, 19, 0, .null, false),
  (23, .iconst 1, 16, 0, 0, .int 1, false),
  (24, .iload_n 3, 17, 3, 0, .null, false),
  (25, .ishl, 18, 0, 0, .null, false),
  (26, .goto 4, 0, 20, 0, .null, false),
  (29, .iconst 0, 20, 0, 0, .int 0, false),
  (30, .ior, 21, 0, 0, .null, true),
  (31, .istore_n 2, 22, 2, 0, .null, false),
  (32, .iinc 3 1, 23, 3, 0, .int 1, false),
  (35, .goto (-31), 0, 4, 0, .null, false),
  (38, .iload_n 2, 25, 2, 0, .null, false),
  (39, .ireturn, 0, 0, 0, .null, false)]
def q_X1_ofDay : List (List mm_N) := [q_X1_ofDay_0]
def q_X1_othersOfItsDay_0 : List mm_N := [(0, .aload_n 0, 1, 0, 0, .null, false),
  (1, .aload_n 0, 2, 0, 0, .null, false),
  (2, .getfield 15, 3, 1, 1, .null, false),
  (5, .iload_n 1, 4, 1, 0, .null, false),
  (6, .iaload, 5, 0, 0, .null, false),
  (7, .invokevirtual 57, 6, 18, 2, .null, false),
  (10, .iconst 1, 7, 0, 0, .int 1, false),
  (11, .iload_n 1, 8, 1, 0, .null, false),
  (12, .ishl, 9, 0, 0, .null, false),
  (13, .iconst (-1), 10, 0, 0, .int (-1), false),
  (14, .ixor, 11, 0, 0, .null, false),
  (15, .iand, 12, 0, 0, .null, false),
  (16, .ireturn, 0, 0, 0, .null, false)]
def q_X1_othersOfItsDay : List (List mm_N) := [q_X1_othersOfItsDay_0]
def q_X1_laterThan_0 : List mm_N := [(0, .iconst 0, 1, 0, 0, .int 0, false),
  (1, .istore_n 2, 2, 2, 0, .null, false),
  (2, .iconst 0, 3, 0, 0, .int 0, false),
  (3, .istore_n 3, 4, 3, 0, .null, false),
  (4, .iload_n 3, 5, 3, 0, .null, true),
  (5, .aload_n 0, 6, 0, 0, .null, false),
  (6, .getfield 30, 7, 1, 6, .null, false),
  (9, .if_icmp .ge 29, 8, 24, 0, .null, false),
  (12, .iload_n 2, 9, 2, 0, .null, false),
  (13, .aload_n 0, 10, 0, 0, .null, false),
  (14, .getfield 15, 11, 1, 1, .null, false),
  (17, .iload_n 3, 12, 3, 0, .null, false),
  (18, .iaload, 13, 0, 0, .null, false),
  (19, .iload_n 1, 14, 1, 0, .null, false),
  (20, .if_icmp .le 9, 15, 19, 0, .null, false),
  (23, .iconst 1, 16, 0, 0, .int 1, false),
  (24, .iload_n 3, 17, 3, 0, .null, false),
  (25, .ishl, 18, 0, 0, .null, false),
  (26, .goto 4, 0, 20, 0, .null, false),
  (29, .iconst 0, 20, 0, 0, .int 0, false),
  (30, .ior, 21, 0, 0, .null, true),
  (31, .istore_n 2, 22, 2, 0, .null, false),
  (32, .iinc 3 1, 23, 3, 0, .int 1, false),
  (35, .goto (-31), 0, 4, 0, .null, false),
  (38, .iload_n 2, 25, 2, 0, .null, false),
  (39, .ireturn, 0, 0, 0, .null, false)]
def q_X1_laterThan : List (List mm_N) := [q_X1_laterThan_0]
def q_X1_countOf_0 : List mm_N := [(0, .iconst 0, 1, 0, 0, .int 0, false),
  (1, .istore_n 2, 2, 2, 0, .null, false),
  (2, .iconst 0, 3, 0, 0, .int 0, false),
  (3, .istore_n 3, 4, 3, 0, .null, false),
  (4, .iload_n 3, 5, 3, 0, .null, true),
  (5, .aload_n 0, 6, 0, 0, .null, false),
  (6, .getfield 30, 7, 1, 6, .null, false),
  (9, .if_icmp .ge 97, 8, 60, 0, .null, false),
  (12, .iload_n 1, 9, 1, 0, .null, false),
  (13, .ifCond .eq 67, 10, 46, 0, .null, false),
  (16, .iload_n 1, 11, 1, 0, .null, false),
  (17, .iconst 1, 12, 0, 0, .int 1, false),
  (18, .if_icmp .ne 12, 13, 18, 0, .null, false),
  (21, .aload_n 0, 14, 0, 0, .null, false),
  (22, .getfield 24, 15, 1, 4, .null, false),
  (25, .iload_n 3, 16, 3, 0, .null, false),
  (26, .iaload, 17, 0, 0, .null, false),
  (27, .ifCond .ne 53, 18, 46, 0, .null, false),
  (30, .iload_n 1, 19, 1, 0, .null, true),
  (31, .iconst 2, 20, 0, 0, .int 2, false),
  (32, .if_icmp .ne 12, 21, 26, 0, .null, false),
  (35, .aload_n 0, 22, 0, 0, .null, false),
  (36, .getfield 24, 23, 1, 4, .null, false),
  (39, .iload_n 3, 24, 3, 0, .null, false),
  (40, .iaload, 25, 0, 0, .null, false),
  (41, .ifCond .lt 39, 26, 46, 0, .null, false),
  (44, .iload_n 1, 27, 1, 0, .null, true),
  (45, .iconst 3, 28, 0, 0, .int 3, false),
  (46, .if_icmp .ne 16, 29, 36, 0, .null, false),
  (49, .aload_n 0, 30, 0, 0, .null, false),
  (50, .getfield 9, 31, 1, 0, .null, false),
  (53, .iload_n 3, 32, 3, 0, .null, false)]
def q_X1_countOf_1 : List mm_N := [(54, .iaload, 33, 0, 0, .null, false),
  (55, .iconst 1, 34, 0, 0, .int 1, false),
  (56, .invokestatic 61, 35, 102, 2, .null, false),
  (59, .ifCond .ne 21, 36, 46, 0, .null, false),
  (62, .iload_n 1, 37, 1, 0, .null, true),
  (63, .iconst 4, 38, 0, 0, .int 4, false),
  (64, .if_icmp .ne 20, 39, 48, 0, .null, false),
  (67, .aload_n 0, 40, 0, 0, .null, false),
  (68, .getfield 9, 41, 1, 0, .null, false),
  (71, .iload_n 3, 42, 3, 0, .null, false),
  (72, .iaload, 43, 0, 0, .null, false),
  (73, .iconst 2, 44, 0, 0, .int 2, false),
  (74, .invokestatic 61, 45, 102, 2, .null, false),
  (77, .ifCond .eq 7, 46, 48, 0, .null, false),
  (80, .iconst 1, 47, 0, 0, .int 1, true),
  (81, .goto 4, 0, 49, 0, .null, false),
  (84, .iconst 0, 49, 0, 0, .int 0, true),
  (85, .istore 4, 50, 4, 0, .null, true),
  (87, .iload_n 2, 51, 2, 0, .null, false),
  (88, .iload 4, 52, 4, 0, .null, false),
  (90, .ifCond .eq 7, 53, 55, 0, .null, false),
  (93, .iconst 1, 54, 0, 0, .int 1, false),
  (94, .goto 4, 0, 56, 0, .null, false),
  (97, .iconst 0, 56, 0, 0, .int 0, false),
  (98, .iadd, 57, 0, 0, .null, true),
  (99, .istore_n 2, 58, 2, 0, .null, false),
  (100, .iinc 3 1, 59, 3, 0, .int 1, false),
  (103, .goto (-99), 0, 4, 0, .null, false),
  (106, .iload_n 2, 61, 2, 0, .null, false),
  (107, .ireturn, 0, 0, 0, .null, false)]
def q_X1_countOf : List (List mm_N) := [q_X1_countOf_0, q_X1_countOf_1]
def q_X1_likeness_0 : List mm_N := [(0, .aload_n 0, 1, 0, 0, .null, false),
  (1, .getfield 27, 2, 1, 5, .null, false),
  (4, .iload_n 1, 3, 1, 0, .null, false),
  (5, .iaload, 4, 0, 0, .null, false),
  (6, .iload_n 2, 5, 2, 0, .null, false),
  (7, .iand, 6, 0, 0, .null, false),
  (8, .iload_n 3, 7, 3, 0, .null, false),
  (9, .iand, 8, 0, 0, .null, false),
  (10, .istore 4, 9, 4, 0, .null, false),
  (12, .aload_n 0, 10, 0, 0, .null, false),
  (13, .getfield 27, 11, 1, 5, .null, false),
  (16, .iload_n 1, 12, 1, 0, .null, false),
  (17, .iaload, 13, 0, 0, .null, false),
  (18, .iload_n 2, 14, 2, 0, .null, false),
  (19, .ixor, 15, 0, 0, .null, false),
  (20, .iload_n 3, 16, 3, 0, .null, false),
  (21, .iand, 17, 0, 0, .null, false),
  (22, .istore 5, 18, 5, 0, .null, false),
  (24, .iconst 2, 19, 0, 0, .int 2, false),
  (25, .iload 4, 20, 4, 0, .null, false),
  (27, .invokestatic 64, 21, 208, 1, .null, false),
  (30, .imul, 22, 0, 0, .null, false),
  (31, .iload 5, 23, 5, 0, .null, false),
  (33, .invokestatic 64, 24, 208, 1, .null, false),
  (36, .isub, 25, 0, 0, .null, false),
  (37, .ireturn, 0, 0, 0, .null, false)]
def q_X1_likeness : List (List mm_N) := [q_X1_likeness_0]
def q_X1_decide_0 : List mm_N := [(0, .bipush (-9), 1, 0, 0, .int (-9), false),
  (2, .istore 4, 2, 4, 0, .null, false),
  (4, .iconst 0, 3, 0, 0, .int 0, false),
  (5, .istore 5, 4, 5, 0, .null, false),
  (7, .iconst 0, 5, 0, 0, .int 0, false),
  (8, .istore 6, 6, 6, 0, .null, false),
  (10, .iload 6, 7, 6, 0, .null, true),
  (12, .aload_n 0, 8, 0, 0, .null, false),
  (13, .getfield 30, 9, 1, 6, .null, false),
  (16, .if_icmp .ge 84, 10, 49, 0, .null, false),
  (19, .iload_n 2, 11, 2, 0, .null, false),
  (20, .iload 6, 12, 6, 0, .null, false),
  (22, .invokestatic 69, 13, 101, 2, .null, false),
  (25, .ifCond .eq 69, 14, 47, 0, .null, false),
  (28, .aload_n 0, 15, 0, 0, .null, false),
  (29, .iload 6, 16, 6, 0, .null, false),
  (31, .iload_n 1, 17, 1, 0, .null, false),
  (32, .iload_n 3, 18, 3, 0, .null, false),
  (33, .invokevirtual 72, 19, 22, 4, .null, false),
  (36, .istore 7, 20, 7, 0, .null, false),
  (38, .iload 4, 21, 4, 0, .null, false),
  (40, .ifCond .lt 34, 22, 37, 0, .null, false),
  (43, .iload 7, 23, 7, 0, .null, false),
  (45, .iload 5, 24, 5, 0, .null, false),
  (47, .if_icmp .gt 27, 25, 37, 0, .null, false),
  (50, .iload 7, 26, 7, 0, .null, false),
  (52, .iload 5, 27, 5, 0, .null, false),
  (54, .if_icmp .ne 24, 28, 39, 0, .null, false),
  (57, .aload_n 0, 29, 0, 0, .null, false),
  (58, .getfield 15, 30, 1, 1, .null, false),
  (61, .iload 6, 31, 6, 0, .null, false),
  (63, .iaload, 32, 0, 0, .null, false)]
def q_X1_decide_1 : List mm_N := [(64, .aload_n 0, 33, 0, 0, .null, false),
  (65, .getfield 15, 34, 1, 1, .null, false),
  (68, .iload 4, 35, 4, 0, .null, false),
  (70, .iaload, 36, 0, 0, .null, false),
  (71, .if_icmp .lt 7, 37, 39, 0, .null, false),
  (74, .iconst 1, 38, 0, 0, .int 1, true),
  (75, .goto 4, 0, 40, 0, .null, false),
  (78, .iconst 0, 40, 0, 0, .int 0, true),
  (79, .istore 8, 41, 8, 0, .null, true),
  (81, .iload 8, 42, 8, 0, .null, false),
  (83, .ifCond .eq 11, 43, 47, 0, .null, false),
  (86, .iload 6, 44, 6, 0, .null, false),
  (88, .istore 4, 45, 4, 0, .null, false),
  (90, .iload 7, 46, 7, 0, .null, false),
  (92, .istore 5, 47, 5, 0, .null, false),
  (94, .iinc 6 1, 48, 6, 0, .int 1, true),
  (97, .goto (-87), 0, 6, 0, .null, false),
  (100, .aload_n 0, 50, 0, 0, .null, false),
  (101, .iload 4, 51, 4, 0, .null, false),
  (103, .invokevirtual 38, 52, 8, 2, .null, false),
  (106, .ifCond .eq 13, 53, 58, 0, .null, false),
  (109, .aload_n 0, 54, 0, 0, .null, false),
  (110, .getfield 18, 55, 1, 2, .null, false),
  (113, .iload 4, 56, 4, 0, .null, false),
  (115, .iaload, 57, 0, 0, .null, false),
  (116, .goto 4, 0, 59, 0, .null, false),
  (119, .iconst 0, 59, 0, 0, .int 0, false),
  (120, .ireturn, 0, 0, 0, .null, true)]
def q_X1_decide : List (List mm_N) := [q_X1_decide_0, q_X1_decide_1]
def q_X1_verdictsBy_0 : List mm_N := [(0, .iconst 0, 1, 0, 0, .int 0, false),
  (1, .istore_n 2, 2, 2, 0, .null, false),
  (2, .iconst 0, 3, 0, 0, .int 0, false),
  (3, .istore_n 3, 4, 3, 0, .null, false),
  (4, .iload_n 3, 5, 3, 0, .null, true),
  (5, .bipush 32, 6, 0, 0, .int 32, false),
  (7, .if_icmp .ge 22, 7, 19, 0, .null, false),
  (10, .iload_n 2, 8, 2, 0, .null, false),
  (11, .aload_n 0, 9, 0, 0, .null, false),
  (12, .iload_n 3, 10, 3, 0, .null, false),
  (13, .iload_n 1, 11, 1, 0, .null, false),
  (14, .bipush 31, 12, 0, 0, .int 31, false),
  (16, .invokevirtual 76, 13, 23, 4, .null, false),
  (19, .iload_n 3, 14, 3, 0, .null, false),
  (20, .ishl, 15, 0, 0, .null, false),
  (21, .ior, 16, 0, 0, .null, false),
  (22, .istore_n 2, 17, 2, 0, .null, false),
  (23, .iinc 3 1, 18, 3, 0, .int 1, false),
  (26, .goto (-22), 0, 4, 0, .null, false),
  (29, .iload_n 2, 20, 2, 0, .null, false),
  (30, .ireturn, 0, 0, 0, .null, false)]
def q_X1_verdictsBy : List (List mm_N) := [q_X1_verdictsBy_0]
def q_X1_agrees_0 : List mm_N := [(0, .iconst 0, 1, 0, 0, .int 0, false),
  (1, .istore_n 3, 2, 3, 0, .null, false),
  (2, .iload_n 3, 3, 3, 0, .null, true),
  (3, .bipush 32, 4, 0, 0, .int 32, false),
  (5, .if_icmp .ge 27, 5, 20, 0, .null, false),
  (8, .aload_n 0, 6, 0, 0, .null, false),
  (9, .iload_n 3, 7, 3, 0, .null, false),
  (10, .iload_n 1, 8, 1, 0, .null, false),
  (11, .bipush 31, 9, 0, 0, .int 31, false),
  (13, .invokevirtual 76, 10, 23, 4, .null, false),
  (16, .iload_n 2, 11, 2, 0, .null, false),
  (17, .iload_n 3, 12, 3, 0, .null, false),
  (18, .iushr, 13, 0, 0, .null, false),
  (19, .iconst 1, 14, 0, 0, .int 1, false),
  (20, .iand, 15, 0, 0, .null, false),
  (21, .if_icmp .eq 5, 16, 18, 0, .null, false),
  (24, .iconst 0, 17, 0, 0, .int 0, false),
  (25, .ireturn, 0, 0, 0, .null, false),
  (26, .iinc 3 1, 19, 3, 0, .int 1, false),
  (29, .goto (-27), 0, 2, 0, .null, false),
  (32, .iconst 1, 21, 0, 0, .int 1, false),
  (33, .ireturn, 0, 0, 0, .null, false)]
def q_X1_agrees : List (List mm_N) := [q_X1_agrees_0]
def q_X2_init_0 : List mm_N := [(0, .aload_n 0, 1, 0, 0, .null, false),
  (1, .invokespecial 3, 2, 1000, 1, .null, false),
  (4, .aload_n 0, 3, 0, 0, .null, false),
  (5, .new 9, 4, 1, 0, .null, false),
  (8, .dup, 5, 0, 0, .null, false),
  (9, .invokespecial 11, 6, 7, 1, .null, false),
  (12, .putfield 12, 7, 2, 0, .null, false),
  (15, .aload_n 0, 8, 0, 0, .null, false),
  (16, .new 18, 9, 3, 0, .null, false),
  (19, .dup, 10, 0, 0, .null, false),
  (20, .iconst 0, 11, 0, 0, .int 0, false),
  (21, .invokespecial 20, 12, 34, 2, .null, false),
  (24, .putfield 23, 13, 2, 1, .null, false),
  (27, .aload_n 0, 14, 0, 0, .null, false),
  (28, .iconst 0, 15, 0, 0, .int 0, false),
  (29, .putfield 27, 16, 2, 2, .null, false),
  (32, .return_, 0, 0, 0, .null, false)]
def q_X2_init : List (List mm_N) := [q_X2_init_0]
def q_X2_read_0 : List mm_N := [(0, .aload_n 0, 1, 0, 0, .null, false),
  (1, .aload_n 1, 2, 1, 0, .null, false),
  (2, .putfield 23, 3, 2, 1, .null, false),
  (5, .aload_n 0, 4, 0, 0, .null, false),
  (6, .iconst 0, 5, 0, 0, .int 0, false),
  (7, .putfield 27, 6, 2, 2, .null, false),
  (10, .aload_n 0, 7, 0, 0, .null, false),
  (11, .getfield 12, 8, 2, 0, .null, false),
  (14, .iconst 0, 9, 0, 0, .int 0, false),
  (15, .invokevirtual 31, 10, 13, 2, .null, false),
  (18, .iconst 0, 11, 0, 0, .int 0, false),
  (19, .istore_n 2, 12, 2, 0, .null, false),
  (20, .iload_n 2, 13, 2, 0, .null, true),
  (21, .bipush 9, 14, 0, 0, .int 9, false),
  (23, .if_icmp .gt 42, 15, 33, 0, .null, false),
  (26, .aload_n 0, 16, 0, 0, .null, false),
  (27, .invokevirtual 34, 17, 28, 1, .null, false),
  (30, .aload_n 0, 18, 0, 0, .null, false),
  (31, .getfield 27, 19, 2, 2, .null, false),
  (34, .aload_n 0, 20, 0, 0, .null, false),
  (35, .getfield 23, 21, 2, 1, .null, false),
  (38, .getfield 37, 22, 3, 1, .null, false),
  (41, .if_icmp .lt 6, 23, 25, 0, .null, false),
  (44, .bipush (-9), 24, 0, 0, .int (-9), false),
  (46, .ireturn, 0, 0, 0, .null, false),
  (47, .aload_n 0, 26, 0, 0, .null, false),
  (48, .invokevirtual 40, 27, 29, 1, .null, false),
  (51, .ifCond .ne 8, 28, 31, 0, .null, false),
  (54, .aload_n 0, 29, 0, 0, .null, false),
  (55, .getfield 27, 30, 2, 2, .null, false),
  (58, .ireturn, 0, 0, 0, .null, false),
  (59, .iinc 2 1, 32, 2, 0, .int 1, false)]
def q_X2_read_1 : List mm_N := [(62, .goto (-42), 0, 12, 0, .null, false),
  (65, .aload_n 0, 34, 0, 0, .null, false),
  (66, .getfield 27, 35, 2, 2, .null, false),
  (69, .ireturn, 0, 0, 0, .null, false)]
def q_X2_read : List (List mm_N) := [q_X2_read_0, q_X2_read_1]
def q_X2_skipBlanks_0 : List mm_N := [(0, .aload_n 0, 1, 0, 0, .null, true),
  (1, .getfield 27, 2, 2, 2, .null, false),
  (4, .aload_n 0, 3, 0, 0, .null, false),
  (5, .getfield 23, 4, 2, 1, .null, false),
  (8, .getfield 37, 5, 3, 1, .null, false),
  (11, .if_icmp .ge 32, 6, 20, 0, .null, false),
  (14, .aload_n 0, 7, 0, 0, .null, false),
  (15, .getfield 23, 8, 2, 1, .null, false),
  (18, .aload_n 0, 9, 0, 0, .null, false),
  (19, .getfield 27, 10, 2, 2, .null, false),
  (22, .invokevirtual 44, 11, 38, 2, .null, false),
  (25, .bipush 32, 12, 0, 0, .int 32, false),
  (27, .if_icmp .ne 16, 13, 20, 0, .null, false),
  (30, .aload_n 0, 14, 0, 0, .null, false),
  (31, .dup, 15, 0, 0, .null, false),
  (32, .getfield 27, 16, 2, 2, .null, false),
  (35, .iconst 1, 17, 0, 0, .int 1, false),
  (36, .iadd, 18, 0, 0, .null, false),
  (37, .putfield 27, 19, 2, 2, .null, false),
  (40, .goto (-40), 0, 0, 0, .null, false),
  (43, .return_, 0, 0, 0, .null, true)]
def q_X2_skipBlanks : List (List mm_N) := [q_X2_skipBlanks_0]
def q_X2_readItem_0 : List mm_N := [(0, .aload_n 0, 1, 0, 0, .null, false),
  (1, .invokevirtual 48, 2, 31, 1, .null, false),
  (4, .istore_n 1, 3, 1, 0, .null, false),
  (5, .iload_n 1, 4, 1, 0, .null, false),
  (6, .ifCond .lt 15, 5, 10, 0, .null, false),
  (9, .aload_n 0, 6, 0, 0, .null, false),
  (10, .getfield 12, 7, 2, 0, .null, false),
  (13, .getfield 52, 8, 1, 6, .null, false),
  (16, .bipush 9, 9, 0, 0, .int 9, false),
  (18, .if_icmp .lt 5, 10, 12, 0, .null, false),
  (21, .iconst 0, 11, 0, 0, .int 0, true),
  (22, .ireturn, 0, 0, 0, .null, false),
  (23, .aload_n 0, 13, 0, 0, .null, false),
  (24, .dup, 14, 0, 0, .null, false),
  (25, .getfield 27, 15, 2, 2, .null, false),
  (28, .iconst 1, 16, 0, 0, .int 1, false),
  (29, .iadd, 17, 0, 0, .null, false),
  (30, .putfield 27, 18, 2, 2, .null, false),
  (33, .aload_n 0, 19, 0, 0, .null, false),
  (34, .invokevirtual 53, 20, 32, 1, .null, false),
  (37, .istore_n 2, 21, 2, 0, .null, false),
  (38, .iload_n 2, 22, 2, 0, .null, false),
  (39, .ifCond .ge 5, 23, 25, 0, .null, false),
  (42, .iconst 0, 24, 0, 0, .int 0, false),
  (43, .ireturn, 0, 0, 0, .null, false),
  (44, .aload_n 0, 26, 0, 0, .null, false),
  (45, .dup, 27, 0, 0, .null, false),
  (46, .getfield 27, 28, 2, 2, .null, false),
  (49, .iconst 1, 29, 0, 0, .int 1, false),
  (50, .iadd, 30, 0, 0, .null, false),
  (51, .putfield 27, 31, 2, 2, .null, false),
  (54, .aload_n 0, 32, 0, 0, .null, false)]
def q_X2_readItem_1 : List mm_N := [(55, .invokevirtual 53, 33, 32, 1, .null, false),
  (58, .istore_n 3, 34, 3, 0, .null, false),
  (59, .iload_n 3, 35, 3, 0, .null, false),
  (60, .iconst 2, 36, 0, 0, .int 2, false),
  (61, .invokestatic 56, 37, 100, 2, .null, false),
  (64, .ifCond .ne 5, 38, 40, 0, .null, false),
  (67, .iconst 0, 39, 0, 0, .int 0, false),
  (68, .ireturn, 0, 0, 0, .null, false),
  (69, .aload_n 0, 41, 0, 0, .null, false),
  (70, .dup, 42, 0, 0, .null, false),
  (71, .getfield 27, 43, 2, 2, .null, false),
  (74, .iconst 1, 44, 0, 0, .int 1, false),
  (75, .iadd, 45, 0, 0, .null, false),
  (76, .putfield 27, 46, 2, 2, .null, false),
  (79, .aload_n 0, 47, 0, 0, .null, false),
  (80, .invokevirtual 60, 48, 30, 1, .null, false),
  (83, .bipush 43, 49, 0, 0, .int 43, false),
  (85, .if_icmp .ne 7, 50, 52, 0, .null, false),
  (88, .iconst 1, 51, 0, 0, .int 1, false),
  (89, .goto 17, 0, 59, 0, .null, false),
  (92, .aload_n 0, 53, 0, 0, .null, false),
  (93, .invokevirtual 60, 54, 30, 1, .null, false),
  (96, .bipush 45, 55, 0, 0, .int 45, false),
  (98, .if_icmp .ne 7, 56, 58, 0, .null, false),
  (101, .iconst (-1), 57, 0, 0, .int (-1), false),
  (102, .goto 4, 0, 59, 0, .null, false),
  (105, .iconst 0, 59, 0, 0, .int 0, false),
  (106, .istore 4, 60, 4, 0, .null, true),
  (108, .bipush (-9), 61, 0, 0, .int (-9), false),
  (110, .istore 5, 62, 5, 0, .null, false),
  (112, .iload 4, 63, 4, 0, .null, false),
  (114, .ifCond .eq 44, 64, 87, 0, .null, false)]
def q_X2_readItem_2 : List mm_N := [(117, .aload_n 0, 65, 0, 0, .null, false),
  (118, .dup, 66, 0, 0, .null, false),
  (119, .getfield 27, 67, 2, 2, .null, false),
  (122, .iconst 1, 68, 0, 0, .int 1, false),
  (123, .iadd, 69, 0, 0, .null, false),
  (124, .putfield 27, 70, 2, 2, .null, false),
  (127, .aload_n 0, 71, 0, 0, .null, false),
  (128, .invokevirtual 53, 72, 32, 1, .null, false),
  (131, .istore 5, 73, 5, 0, .null, false),
  (133, .aload_n 0, 74, 0, 0, .null, false),
  (134, .getfield 12, 75, 2, 0, .null, false),
  (137, .iload 5, 76, 5, 0, .null, false),
  (139, .iload_n 2, 77, 2, 0, .null, false),
  (140, .invokevirtual 63, 78, 10, 3, .null, false),
  (143, .ifCond .ne 5, 79, 81, 0, .null, false),
  (146, .iconst 0, 80, 0, 0, .int 0, false),
  (147, .ireturn, 0, 0, 0, .null, false),
  (148, .aload_n 0, 82, 0, 0, .null, false),
  (149, .dup, 83, 0, 0, .null, false),
  (150, .getfield 27, 84, 2, 2, .null, false),
  (153, .iconst 1, 85, 0, 0, .int 1, false),
  (154, .iadd, 86, 0, 0, .null, false),
  (155, .putfield 27, 87, 2, 2, .null, false),
  (158, .aload_n 0, 88, 0, 0, .null, true),
  (159, .invokevirtual 60, 89, 30, 1, .null, false),
  (162, .bipush 46, 90, 0, 0, .int 46, false),
  (164, .if_icmp .eq 5, 91, 93, 0, .null, false),
  (167, .iconst 0, 92, 0, 0, .int 0, false),
  (168, .ireturn, 0, 0, 0, .null, false),
  (169, .aload_n 0, 94, 0, 0, .null, false),
  (170, .dup, 95, 0, 0, .null, false),
  (171, .getfield 27, 96, 2, 2, .null, false)]
def q_X2_readItem_3 : List mm_N := [(174, .iconst 1, 97, 0, 0, .int 1, false),
  (175, .iadd, 98, 0, 0, .null, false),
  (176, .putfield 27, 99, 2, 2, .null, false),
  (179, .aload_n 0, 100, 0, 0, .null, false),
  (180, .getfield 12, 101, 2, 0, .null, false),
  (183, .iload_n 1, 102, 1, 0, .null, false),
  (184, .iload_n 2, 103, 2, 0, .null, false),
  (185, .iload_n 3, 104, 3, 0, .null, false),
  (186, .iload 5, 105, 5, 0, .null, false),
  (188, .iload 4, 106, 4, 0, .null, false),
  (190, .aload_n 0, 107, 0, 0, .null, false),
  (191, .invokevirtual 66, 108, 33, 1, .null, false),
  (194, .invokevirtual 69, 109, 12, 7, .null, false),
  (197, .iconst 1, 110, 0, 0, .int 1, false),
  (198, .ireturn, 0, 0, 0, .null, false)]
def q_X2_readItem : List (List mm_N) := [q_X2_readItem_0, q_X2_readItem_1, q_X2_readItem_2, q_X2_readItem_3]
def q_X2_sign_0 : List mm_N := [(0, .aload_n 0, 1, 0, 0, .null, false),
  (1, .getfield 23, 2, 2, 1, .null, false),
  (4, .aload_n 0, 3, 0, 0, .null, false),
  (5, .getfield 27, 4, 2, 2, .null, false),
  (8, .invokevirtual 44, 5, 38, 2, .null, false),
  (11, .ireturn, 0, 0, 0, .null, false)]
def q_X2_sign : List (List mm_N) := [q_X2_sign_0]
def q_X2_letter_0 : List mm_N := [(0, .iconst 0, 1, 0, 0, .int 0, false),
  (1, .istore_n 1, 2, 1, 0, .null, false),
  (2, .iload_n 1, 3, 1, 0, .null, true),
  (3, .bipush 6, 4, 0, 0, .int 6, false),
  (5, .if_icmp .ge 23, 5, 15, 0, .null, false),
  (8, .aload_n 0, 6, 0, 0, .null, false),
  (9, .invokevirtual 60, 7, 30, 1, .null, false),
  (12, .getstatic 73, 8, 1, 0, .null, false),
  (15, .iload_n 1, 9, 1, 0, .null, false),
  (16, .iaload, 10, 0, 0, .null, false),
  (17, .if_icmp .ne 5, 11, 13, 0, .null, false),
  (20, .iload_n 1, 12, 1, 0, .null, false),
  (21, .ireturn, 0, 0, 0, .null, false),
  (22, .iinc 1 1, 14, 1, 0, .int 1, false),
  (25, .goto (-23), 0, 2, 0, .null, false),
  (28, .iconst (-1), 16, 0, 0, .int (-1), false),
  (29, .ireturn, 0, 0, 0, .null, false)]
def q_X2_letter : List (List mm_N) := [q_X2_letter_0]
def q_X2_figure_0 : List mm_N := [(0, .aload_n 0, 1, 0, 0, .null, false),
  (1, .invokevirtual 60, 2, 30, 1, .null, false),
  (4, .bipush 48, 3, 0, 0, .int 48, false),
  (6, .isub, 4, 0, 0, .null, false),
  (7, .istore_n 1, 5, 1, 0, .null, false),
  (8, .iload_n 1, 6, 1, 0, .null, false),
  (9, .bipush 10, 7, 0, 0, .int 10, false),
  (11, .invokestatic 56, 8, 100, 2, .null, false),
  (14, .ifCond .eq 7, 9, 11, 0, .null, false),
  (17, .iload_n 1, 10, 1, 0, .null, false),
  (18, .goto 4, 0, 12, 0, .null, false),
  (21, .iconst (-1), 12, 0, 0, .int (-1), false),
  (22, .ireturn, 0, 0, 0, .null, true)]
def q_X2_figure : List (List mm_N) := [q_X2_figure_0]
def q_X2_readMarks_0 : List mm_N := [(0, .iconst 0, 1, 0, 0, .int 0, false),
  (1, .istore_n 1, 2, 1, 0, .null, false),
  (2, .iconst 0, 3, 0, 0, .int 0, false),
  (3, .istore_n 2, 4, 2, 0, .null, false),
  (4, .iload_n 2, 5, 2, 0, .null, true),
  (5, .iconst 5, 6, 0, 0, .int 5, false),
  (6, .if_icmp .ge 36, 7, 27, 0, .null, false),
  (9, .aload_n 0, 8, 0, 0, .null, false),
  (10, .invokevirtual 60, 9, 30, 1, .null, false),
  (13, .bipush 48, 10, 0, 0, .int 48, false),
  (15, .iload_n 2, 11, 2, 0, .null, false),
  (16, .iadd, 12, 0, 0, .null, false),
  (17, .if_icmp .ne 19, 13, 25, 0, .null, false),
  (20, .iload_n 1, 14, 1, 0, .null, false),
  (21, .iconst 1, 15, 0, 0, .int 1, false),
  (22, .iload_n 2, 16, 2, 0, .null, false),
  (23, .ishl, 17, 0, 0, .null, false),
  (24, .ior, 18, 0, 0, .null, false),
  (25, .istore_n 1, 19, 1, 0, .null, false),
  (26, .aload_n 0, 20, 0, 0, .null, false),
  (27, .dup, 21, 0, 0, .null, false),
  (28, .getfield 27, 22, 2, 2, .null, false),
  (31, .iconst 1, 23, 0, 0, .int 1, false),
  (32, .iadd, 24, 0, 0, .null, false),
  (33, .putfield 27, 25, 2, 2, .null, false),
  (36, .iinc 2 1, 26, 2, 0, .int 1, true),
  (39, .goto (-35), 0, 4, 0, .null, false),
  (42, .iload_n 1, 28, 1, 0, .null, false),
  (43, .ireturn, 0, 0, 0, .null, false)]
def q_X2_readMarks : List (List mm_N) := [q_X2_readMarks_0]
def q_X3_init_0 : List mm_N := [(0, .aload_n 0, 1, 0, 0, .null, false),
  (1, .invokespecial 1, 2, 1000, 1, .null, false),
  (4, .aload_n 0, 3, 0, 0, .null, false),
  (5, .iconst (-1), 4, 0, 0, .int (-1), false),
  (6, .putfield 7, 5, 3, 1, .null, false),
  (9, .aload_n 0, 6, 0, 0, .null, false),
  (10, .iload_n 1, 7, 1, 0, .null, false),
  (11, .iconst 0, 8, 0, 0, .int 0, false),
  (12, .invokestatic 13, 9, 1002, 2, .null, false),
  (15, .newarray .int, 10, 0, 0, .null, false),
  (17, .putfield 19, 11, 3, 0, .null, false),
  (20, .return_, 0, 0, 0, .null, false)]
def q_X3_init : List (List mm_N) := [q_X3_init_0]
def q_X3_isMissing_0 : List mm_N := [(0, .aload_n 0, 1, 0, 0, .null, false),
  (1, .getfield 7, 2, 3, 1, .null, false),
  (4, .ifCond .ge 7, 3, 5, 0, .null, false),
  (7, .iconst 1, 4, 0, 0, .int 1, false),
  (8, .goto 4, 0, 6, 0, .null, false),
  (11, .iconst 0, 6, 0, 0, .int 0, false),
  (12, .ireturn, 0, 0, 0, .null, true)]
def q_X3_isMissing : List (List mm_N) := [q_X3_isMissing_0]
def q_X3_has_0 : List mm_N := [(0, .iload_n 1, 1, 1, 0, .null, false),
  (1, .aload_n 0, 2, 0, 0, .null, false),
  (2, .getfield 7, 3, 3, 1, .null, false),
  (5, .invokestatic 23, 4, 100, 2, .null, false),
  (8, .ireturn, 0, 0, 0, .null, false)]
def q_X3_has : List (List mm_N) := [q_X3_has_0]
def q_X3_hasRun_0 : List mm_N := [(0, .iload_n 1, 1, 1, 0, .null, false),
  (1, .ifCond .lt 29, 2, 16, 0, .null, false),
  (4, .iload_n 1, 3, 1, 0, .null, false),
  (5, .aload_n 0, 4, 0, 0, .null, false),
  (6, .getfield 7, 5, 3, 1, .null, false),
  (9, .if_icmp .gt 21, 6, 16, 0, .null, false),
  (12, .iload_n 2, 7, 2, 0, .null, false),
  (13, .ifCond .lt 17, 8, 16, 0, .null, false),
  (16, .iload_n 2, 9, 2, 0, .null, false),
  (17, .aload_n 0, 10, 0, 0, .null, false),
  (18, .getfield 7, 11, 3, 1, .null, false),
  (21, .iload_n 1, 12, 1, 0, .null, false),
  (22, .isub, 13, 0, 0, .null, false),
  (23, .if_icmp .gt 7, 14, 16, 0, .null, false),
  (26, .iconst 1, 15, 0, 0, .int 1, false),
  (27, .goto 4, 0, 17, 0, .null, false),
  (30, .iconst 0, 17, 0, 0, .int 0, true),
  (31, .ireturn, 0, 0, 0, .null, true)]
def q_X3_hasRun : List (List mm_N) := [q_X3_hasRun_0]
def q_X3_value_0 : List mm_N := [(0, .aload_n 0, 1, 0, 0, .null, false),
  (1, .iload_n 1, 2, 1, 0, .null, false),
  (2, .invokevirtual 29, 3, 36, 2, .null, false),
  (5, .ifCond .eq 12, 4, 9, 0, .null, false),
  (8, .aload_n 0, 5, 0, 0, .null, false),
  (9, .getfield 19, 6, 3, 0, .null, false),
  (12, .iload_n 1, 7, 1, 0, .null, false),
  (13, .iaload, 8, 0, 0, .null, false),
  (14, .goto 4, 0, 10, 0, .null, false),
  (17, .iconst 0, 10, 0, 0, .int 0, false),
  (18, .ireturn, 0, 0, 0, .null, true)]
def q_X3_value : List (List mm_N) := [q_X3_value_0]
def q_X3_swap_0 : List mm_N := [(0, .aload_n 0, 1, 0, 0, .null, false),
  (1, .iload_n 1, 2, 1, 0, .null, false),
  (2, .invokevirtual 33, 3, 38, 2, .null, false),
  (5, .istore_n 3, 4, 3, 0, .null, false),
  (6, .aload_n 0, 5, 0, 0, .null, false),
  (7, .iload_n 1, 6, 1, 0, .null, false),
  (8, .invokevirtual 29, 7, 36, 2, .null, false),
  (11, .ifCond .eq 10, 8, 13, 0, .null, false),
  (14, .aload_n 0, 9, 0, 0, .null, false),
  (15, .getfield 19, 10, 3, 0, .null, false),
  (18, .iload_n 1, 11, 1, 0, .null, false),
  (19, .iload_n 2, 12, 2, 0, .null, false),
  (20, .iastore, 13, 0, 0, .null, false),
  (21, .iload_n 3, 14, 3, 0, .null, true),
  (22, .ireturn, 0, 0, 0, .null, false)]
def q_X3_swap : List (List mm_N) := [q_X3_swap_0]
def q_X3_renew_0 : List mm_N := [(0, .aload_n 0, 1, 0, 0, .null, false),
  (1, .iload_n 1, 2, 1, 0, .null, false),
  (2, .aload_n 0, 3, 0, 0, .null, false),
  (3, .getfield 19, 4, 3, 0, .null, false),
  (6, .arraylength, 5, 0, 0, .null, false),
  (7, .invokestatic 37, 6, 1003, 2, .null, false),
  (10, .putfield 7, 7, 3, 1, .null, false),
  (13, .iconst 0, 8, 0, 0, .int 0, false),
  (14, .istore_n 3, 9, 3, 0, .null, false),
  (15, .iload_n 3, 10, 3, 0, .null, true),
  (16, .aload_n 0, 11, 0, 0, .null, false),
  (17, .getfield 7, 12, 3, 1, .null, false),
  (20, .if_icmp .ge 16, 13, 20, 0, .null, false),
  (23, .aload_n 0, 14, 0, 0, .null, false),
  (24, .getfield 19, 15, 3, 0, .null, false),
  (27, .iload_n 3, 16, 3, 0, .null, false),
  (28, .iload_n 2, 17, 2, 0, .null, false),
  (29, .iastore, 18, 0, 0, .null, false),
  (30, .iinc 3 1, 19, 3, 0, .int 1, false),
  (33, .goto (-18), 0, 9, 0, .null, false),
  (36, .return_, 0, 0, 0, .null, false)]
def q_X3_renew : List (List mm_N) := [q_X3_renew_0]
def q_X3_remove_0 : List mm_N := [(0, .aload_n 0, 1, 0, 0, .null, false),
  (1, .iconst (-1), 2, 0, 0, .int (-1), false),
  (2, .putfield 7, 3, 3, 1, .null, false),
  (5, .return_, 0, 0, 0, .null, false)]
def q_X3_remove : List (List mm_N) := [q_X3_remove_0]
def q_X3_sum_0 : List mm_N := [(0, .lconst 0, 1, 0, 0, .long 0, false),
  (1, .lstore_n 1, 2, 1, 0, .null, false),
  (2, .iconst 0, 3, 0, 0, .int 0, false),
  (3, .istore_n 3, 4, 3, 0, .null, false),
  (4, .iload_n 3, 5, 3, 0, .null, true),
  (5, .aload_n 0, 6, 0, 0, .null, false),
  (6, .getfield 7, 7, 3, 1, .null, false),
  (9, .if_icmp .ge 19, 8, 18, 0, .null, false),
  (12, .lload_n 1, 9, 1, 0, .null, false),
  (13, .aload_n 0, 10, 0, 0, .null, false),
  (14, .getfield 19, 11, 3, 0, .null, false),
  (17, .iload_n 3, 12, 3, 0, .null, false),
  (18, .iaload, 13, 0, 0, .null, false),
  (19, .i2l, 14, 0, 0, .null, false),
  (20, .ladd, 15, 0, 0, .null, false),
  (21, .lstore_n 1, 16, 1, 0, .null, false),
  (22, .iinc 3 1, 17, 3, 0, .int 1, false),
  (25, .goto (-21), 0, 4, 0, .null, false),
  (28, .lload_n 1, 19, 1, 0, .null, false),
  (29, .lreturn, 0, 0, 0, .null, false)]
def q_X3_sum : List (List mm_N) := [q_X3_sum_0]
def q_X3_digestFrom_0 : List mm_N := [(0, .ldc2_w 40, 1, 0, 0, .long 31, false),
  (3, .lload_n 1, 2, 1, 0, .null, false),
  (4, .lmul, 3, 0, 0, .null, false),
  (5, .aload_n 0, 4, 0, 0, .null, false),
  (6, .getfield 7, 5, 3, 1, .null, false),
  (9, .i2l, 6, 0, 0, .null, false),
  (10, .ladd, 7, 0, 0, .null, false),
  (11, .lstore_n 3, 8, 3, 0, .null, false),
  (12, .iconst 0, 9, 0, 0, .int 0, false),
  (13, .istore 5, 10, 5, 0, .null, false),
  (15, .iload 5, 11, 5, 0, .null, true),
  (17, .aload_n 0, 12, 0, 0, .null, false),
  (18, .getfield 7, 13, 3, 1, .null, false),
  (21, .if_icmp .ge 24, 14, 26, 0, .null, false),
  (24, .ldc2_w 40, 15, 0, 0, .long 31, false),
  (27, .lload_n 3, 16, 3, 0, .null, false),
  (28, .lmul, 17, 0, 0, .null, false),
  (29, .aload_n 0, 18, 0, 0, .null, false),
  (30, .getfield 19, 19, 3, 0, .null, false),
  (33, .iload 5, 20, 5, 0, .null, false),
  (35, .iaload, 21, 0, 0, .null, false),
  (36, .i2l, 22, 0, 0, .null, false),
  (37, .ladd, 23, 0, 0, .null, false),
  (38, .lstore_n 3, 24, 3, 0, .null, false),
  (39, .iinc 5 1, 25, 5, 0, .int 1, false),
  (42, .goto (-27), 0, 10, 0, .null, false),
  (45, .lload_n 3, 27, 3, 0, .null, false),
  (46, .lreturn, 0, 0, 0, .null, false)]
def q_X3_digestFrom : List (List mm_N) := [q_X3_digestFrom_0]
def q_X4_init_0 : List mm_N := [(0, .aload_n 0, 1, 0, 0, .null, false),
  (1, .invokespecial 3, 2, 1000, 1, .null, false),
  (4, .aload_n 0, 3, 0, 0, .null, false),
  (5, .sipush 512, 4, 0, 0, .int 512, false),
  (8, .newarray .int, 5, 0, 0, .null, false),
  (10, .putfield 9, 6, 4, 0, .null, false),
  (13, .aload_n 0, 7, 0, 0, .null, false),
  (14, .iconst 0, 8, 0, 0, .int 0, false),
  (15, .putfield 15, 9, 4, 1, .null, false),
  (18, .aload_n 0, 10, 0, 0, .null, false),
  (19, .iconst 0, 11, 0, 0, .int 0, false),
  (20, .putfield 19, 12, 4, 2, .null, false),
  (23, .aload_n 0, 13, 0, 0, .null, false),
  (24, .iconst 0, 14, 0, 0, .int 0, false),
  (25, .putfield 22, 15, 4, 3, .null, false),
  (28, .aload_n 0, 16, 0, 0, .null, false),
  (29, .iconst 0, 17, 0, 0, .int 0, false),
  (30, .putfield 25, 18, 4, 4, .null, false),
  (33, .return_, 0, 0, 0, .null, false)]
def q_X4_init : List (List mm_N) := [q_X4_init_0]
def q_X4_find_0 : List mm_N := [(0, .aload_n 0, 1, 0, 0, .null, false),
  (1, .iconst 1, 2, 0, 0, .int 1, false),
  (2, .aload_n 1, 3, 1, 0, .null, false),
  (3, .getfield 28, 4, 0, 7, .null, false),
  (6, .ishl, 5, 0, 0, .null, false),
  (7, .iconst 1, 6, 0, 0, .int 1, false),
  (8, .isub, 7, 0, 0, .null, false),
  (9, .putfield 25, 8, 4, 4, .null, false),
  (12, .aload_n 0, 9, 0, 0, .null, false),
  (13, .iconst 0, 10, 0, 0, .int 0, false),
  (14, .putfield 15, 11, 4, 1, .null, false),
  (17, .aload_n 0, 12, 0, 0, .null, false),
  (18, .aload_n 0, 13, 0, 0, .null, false),
  (19, .getfield 25, 14, 4, 4, .null, false),
  (22, .putfield 19, 15, 4, 2, .null, false),
  (25, .aload_n 0, 16, 0, 0, .null, false),
  (26, .iconst 0, 17, 0, 0, .int 0, false),
  (27, .putfield 22, 18, 4, 3, .null, false),
  (30, .iconst 0, 19, 0, 0, .int 0, false),
  (31, .istore_n 2, 20, 2, 0, .null, false),
  (32, .iload_n 2, 21, 2, 0, .null, true),
  (33, .aload_n 0, 22, 0, 0, .null, false),
  (34, .getfield 25, 23, 4, 4, .null, false),
  (37, .if_icmp .gt 80, 24, 69, 0, .null, false),
  (40, .aload_n 1, 25, 1, 0, .null, false),
  (41, .iload_n 2, 26, 2, 0, .null, false),
  (42, .invokevirtual 33, 27, 5, 2, .null, false),
  (45, .istore_n 3, 28, 3, 0, .null, false),
  (46, .iload_n 3, 29, 3, 0, .null, false),
  (47, .ifCond .eq 12, 30, 37, 0, .null, false),
  (50, .iload_n 2, 31, 2, 0, .null, false),
  (51, .iload_n 3, 32, 3, 0, .null, false)]
def q_X4_find_1 : List mm_N := [(52, .iconst 1, 33, 0, 0, .int 1, false),
  (53, .isub, 34, 0, 0, .null, false),
  (54, .ior, 35, 0, 0, .null, false),
  (55, .istore_n 2, 36, 2, 0, .null, false),
  (56, .goto 55, 0, 67, 0, .null, false),
  (59, .aload_n 0, 38, 0, 0, .null, false),
  (60, .getfield 15, 39, 4, 1, .null, false),
  (63, .aload_n 0, 40, 0, 0, .null, false),
  (64, .getfield 9, 41, 4, 0, .null, false),
  (67, .arraylength, 42, 0, 0, .null, false),
  (68, .if_icmp .ge 43, 43, 67, 0, .null, false),
  (71, .aload_n 0, 44, 0, 0, .null, false),
  (72, .getfield 9, 45, 4, 0, .null, false),
  (75, .aload_n 0, 46, 0, 0, .null, false),
  (76, .getfield 15, 47, 4, 1, .null, false),
  (79, .iload_n 2, 48, 2, 0, .null, false),
  (80, .iastore, 49, 0, 0, .null, false),
  (81, .aload_n 0, 50, 0, 0, .null, false),
  (82, .dup, 51, 0, 0, .null, false),
  (83, .getfield 15, 52, 4, 1, .null, false),
  (86, .iconst 1, 53, 0, 0, .int 1, false),
  (87, .iadd, 54, 0, 0, .null, false),
  (88, .putfield 15, 55, 4, 1, .null, false),
  (91, .aload_n 0, 56, 0, 0, .null, false),
  (92, .dup, 57, 0, 0, .null, false),
  (93, .getfield 19, 58, 4, 2, .null, false),
  (96, .iload_n 2, 59, 2, 0, .null, false),
  (97, .iand, 60, 0, 0, .null, false),
  (98, .putfield 19, 61, 4, 2, .null, false),
  (101, .aload_n 0, 62, 0, 0, .null, false),
  (102, .dup, 63, 0, 0, .null, false),
  (103, .getfield 22, 64, 4, 3, .null, false)]
def q_X4_find_2 : List mm_N := [(106, .iload_n 2, 65, 2, 0, .null, false),
  (107, .ior, 66, 0, 0, .null, false),
  (108, .putfield 22, 67, 4, 3, .null, false),
  (111, .iinc 2 1, 68, 2, 0, .int 1, true),
  (114, .goto (-82), 0, 20, 0, .null, false),
  (117, .return_, 0, 0, 0, .null, false)]
def q_X4_find : List (List mm_N) := [q_X4_find_0, q_X4_find_1, q_X4_find_2]
def q_X4_first_0 : List mm_N := [(0, .aload_n 0, 1, 0, 0, .null, false),
  (1, .getfield 15, 2, 4, 1, .null, false),
  (4, .ifCond .ne 8, 3, 5, 0, .null, false),
  (7, .bipush (-9), 4, 0, 0, .int (-9), false),
  (9, .goto 9, 0, 9, 0, .null, false),
  (12, .aload_n 0, 6, 0, 0, .null, false),
  (13, .getfield 9, 7, 4, 0, .null, false),
  (16, .iconst 0, 8, 0, 0, .int 0, false),
  (17, .iaload, 9, 0, 0, .null, false),
  (18, .ireturn, 0, 0, 0, .null, true)]
def q_X4_first : List (List mm_N) := [q_X4_first_0]
def q_X4_surelyStanding_0 : List mm_N := [(0, .aload_n 0, 1, 0, 0, .null, false),
  (1, .getfield 15, 2, 4, 1, .null, false),
  (4, .ifCond .ne 7, 3, 5, 0, .null, false),
  (7, .iconst 0, 4, 0, 0, .int 0, false),
  (8, .goto 7, 0, 7, 0, .null, false),
  (11, .aload_n 0, 6, 0, 0, .null, false),
  (12, .getfield 19, 7, 4, 2, .null, false),
  (15, .ireturn, 0, 0, 0, .null, true)]
def q_X4_surelyStanding : List (List mm_N) := [q_X4_surelyStanding_0]
def q_X4_surelyFalling_0 : List mm_N := [(0, .aload_n 0, 1, 0, 0, .null, false),
  (1, .getfield 15, 2, 4, 1, .null, false),
  (4, .ifCond .ne 7, 3, 5, 0, .null, false),
  (7, .iconst 0, 4, 0, 0, .int 0, false),
  (8, .goto 14, 0, 12, 0, .null, false),
  (11, .aload_n 0, 6, 0, 0, .null, false),
  (12, .getfield 25, 7, 4, 4, .null, false),
  (15, .aload_n 0, 8, 0, 0, .null, false),
  (16, .getfield 22, 9, 4, 3, .null, false),
  (19, .iconst (-1), 10, 0, 0, .int (-1), false),
  (20, .ixor, 11, 0, 0, .null, false),
  (21, .iand, 12, 0, 0, .null, false),
  (22, .ireturn, 0, 0, 0, .null, true)]
def q_X4_surelyFalling : List (List mm_N) := [q_X4_surelyFalling_0]
def q_X4_waysWith_0 : List mm_N := [(0, .iconst 0, 1, 0, 0, .int 0, false),
  (1, .istore_n 2, 2, 2, 0, .null, false),
  (2, .iconst 0, 3, 0, 0, .int 0, false),
  (3, .istore_n 3, 4, 3, 0, .null, false),
  (4, .iload_n 3, 5, 3, 0, .null, true),
  (5, .aload_n 0, 6, 0, 0, .null, false),
  (6, .getfield 15, 7, 4, 1, .null, false),
  (9, .if_icmp .ge 22, 8, 21, 0, .null, false),
  (12, .iload_n 2, 9, 2, 0, .null, false),
  (13, .aload_n 0, 10, 0, 0, .null, false),
  (14, .getfield 9, 11, 4, 0, .null, false),
  (17, .iload_n 3, 12, 3, 0, .null, false),
  (18, .iaload, 13, 0, 0, .null, false),
  (19, .iload_n 1, 14, 1, 0, .null, false),
  (20, .ishr, 15, 0, 0, .null, false),
  (21, .iconst 1, 16, 0, 0, .int 1, false),
  (22, .iand, 17, 0, 0, .null, false),
  (23, .iadd, 18, 0, 0, .null, false),
  (24, .istore_n 2, 19, 2, 0, .null, false),
  (25, .iinc 3 1, 20, 3, 0, .int 1, false),
  (28, .goto (-24), 0, 4, 0, .null, false),
  (31, .iload_n 2, 22, 2, 0, .null, false),
  (32, .ireturn, 0, 0, 0, .null, false)]
def q_X4_waysWith : List (List mm_N) := [q_X4_waysWith_0]
def q_X4_meets_0 : List mm_N := [(0, .iload_n 1, 1, 1, 0, .null, false),
  (1, .iconst 2, 2, 0, 0, .int 2, false),
  (2, .if_icmp .ne 17, 3, 11, 0, .null, false),
  (5, .aload_n 0, 4, 0, 0, .null, false),
  (6, .getfield 15, 5, 4, 1, .null, false),
  (9, .iconst 1, 6, 0, 0, .int 1, false),
  (10, .if_icmp .ne 7, 7, 9, 0, .null, false),
  (13, .iconst 1, 8, 0, 0, .int 1, false),
  (14, .goto 4, 0, 10, 0, .null, false),
  (17, .iconst 0, 10, 0, 0, .int 0, false),
  (18, .ireturn, 0, 0, 0, .null, true),
  (19, .iload_n 1, 12, 1, 0, .null, false),
  (20, .iconst 1, 13, 0, 0, .int 1, false),
  (21, .if_icmp .ne 10, 14, 17, 0, .null, false),
  (24, .aload_n 0, 15, 0, 0, .null, false),
  (25, .invokevirtual 37, 16, 47, 1, .null, false),
  (28, .goto 7, 0, 19, 0, .null, false),
  (31, .aload_n 0, 18, 0, 0, .null, false),
  (32, .invokevirtual 41, 19, 48, 1, .null, false),
  (35, .iload_n 2, 20, 2, 0, .null, true),
  (36, .invokestatic 44, 21, 101, 2, .null, false),
  (39, .ireturn, 0, 0, 0, .null, false)]
def q_X4_meets : List (List mm_N) := [q_X4_meets_0]
def q_X5_init_0 : List mm_N := [(0, .aload_n 0, 1, 0, 0, .null, false),
  (1, .invokespecial 1, 2, 1000, 1, .null, false),
  (4, .aload_n 0, 3, 0, 0, .null, false),
  (5, .bipush 6, 4, 0, 0, .int 6, false),
  (7, .anewarray 9, 5, 3, 0, .null, false),
  (10, .putfield 11, 6, 5, 0, .null, false),
  (13, .aload_n 0, 7, 0, 0, .null, false),
  (14, .iconst 4, 8, 0, 0, .int 4, false),
  (15, .anewarray 9, 9, 3, 0, .null, false),
  (18, .putfield 15, 10, 5, 1, .null, false),
  (21, .aload_n 0, 11, 0, 0, .null, false),
  (22, .new 18, 12, 1, 0, .null, false),
  (25, .dup, 13, 0, 0, .null, false),
  (26, .invokespecial 20, 14, 7, 1, .null, false),
  (29, .putfield 21, 15, 5, 2, .null, false),
  (32, .aload_n 0, 16, 0, 0, .null, false),
  (33, .iconst 3, 17, 0, 0, .int 3, false),
  (34, .anewarray 18, 18, 1, 0, .null, false),
  (37, .putfield 25, 19, 5, 3, .null, false),
  (40, .aload_n 0, 20, 0, 0, .null, false),
  (41, .new 29, 21, 2, 0, .null, false),
  (44, .dup, 22, 0, 0, .null, false),
  (45, .invokespecial 31, 23, 26, 1, .null, false),
  (48, .putfield 32, 24, 5, 4, .null, false),
  (51, .aload_n 0, 25, 0, 0, .null, false),
  (52, .new 36, 26, 0, 0, .null, false),
  (55, .dup, 27, 0, 0, .null, false),
  (56, .invokespecial 38, 28, 0, 1, .null, false),
  (59, .putfield 39, 29, 5, 5, .null, false),
  (62, .aload_n 0, 30, 0, 0, .null, false),
  (63, .new 43, 31, 4, 0, .null, false),
  (66, .dup, 32, 0, 0, .null, false)]
def q_X5_init_1 : List mm_N := [(67, .invokespecial 45, 33, 44, 1, .null, false),
  (70, .putfield 46, 34, 5, 6, .null, false),
  (73, .aload_n 0, 35, 0, 0, .null, false),
  (74, .iconst 3, 36, 0, 0, .int 3, false),
  (75, .newarray .int, 37, 0, 0, .null, false),
  (77, .putfield 50, 38, 5, 7, .null, false),
  (80, .aload_n 0, 39, 0, 0, .null, false),
  (81, .bipush 6, 40, 0, 0, .int 6, false),
  (83, .newarray .int, 41, 0, 0, .null, false),
  (85, .putfield 54, 42, 5, 8, .null, false),
  (88, .aload_n 0, 43, 0, 0, .null, false),
  (89, .iconst 0, 44, 0, 0, .int 0, false),
  (90, .putfield 57, 45, 5, 9, .null, false),
  (93, .aload_n 0, 46, 0, 0, .null, false),
  (94, .iconst 0, 47, 0, 0, .int 0, false),
  (95, .putfield 61, 48, 5, 10, .null, false),
  (98, .aload_n 0, 49, 0, 0, .null, false),
  (99, .lconst 0, 50, 0, 0, .long 0, false),
  (100, .putfield 64, 51, 5, 11, .null, false),
  (103, .aload_n 0, 52, 0, 0, .null, false),
  (104, .lconst 1, 53, 0, 0, .long 1, false),
  (105, .putfield 68, 54, 5, 12, .null, false),
  (108, .iconst 0, 55, 0, 0, .int 0, false),
  (109, .istore_n 1, 56, 1, 0, .null, false),
  (110, .iload_n 1, 57, 1, 0, .null, true),
  (111, .bipush 6, 58, 0, 0, .int 6, false),
  (113, .if_icmp .ge 24, 59, 69, 0, .null, false),
  (116, .aload_n 0, 60, 0, 0, .null, false),
  (117, .getfield 11, 61, 5, 0, .null, false),
  (120, .iload_n 1, 62, 1, 0, .null, false),
  (121, .new 9, 63, 3, 0, .null, false),
  (124, .dup, 64, 0, 0, .null, false)]
def q_X5_init_2 : List mm_N := [(125, .bipush 40, 65, 0, 0, .int 40, false),
  (127, .invokespecial 71, 66, 34, 2, .null, false),
  (130, .aastore, 67, 0, 0, .null, false),
  (131, .iinc 1 1, 68, 1, 0, .int 1, false),
  (134, .goto (-24), 0, 56, 0, .null, false),
  (137, .iconst 0, 70, 0, 0, .int 0, false),
  (138, .istore_n 1, 71, 1, 0, .null, false),
  (139, .iload_n 1, 72, 1, 0, .null, true),
  (140, .iconst 4, 73, 0, 0, .int 4, false),
  (141, .if_icmp .ge 24, 74, 84, 0, .null, false),
  (144, .aload_n 0, 75, 0, 0, .null, false),
  (145, .getfield 15, 76, 5, 1, .null, false),
  (148, .iload_n 1, 77, 1, 0, .null, false),
  (149, .new 9, 78, 3, 0, .null, false),
  (152, .dup, 79, 0, 0, .null, false),
  (153, .bipush 80, 80, 0, 0, .int 80, false),
  (155, .invokespecial 71, 81, 34, 2, .null, false),
  (158, .aastore, 82, 0, 0, .null, false),
  (159, .iinc 1 1, 83, 1, 0, .int 1, false),
  (162, .goto (-23), 0, 71, 0, .null, false),
  (165, .iconst 0, 85, 0, 0, .int 0, false),
  (166, .istore_n 1, 86, 1, 0, .null, false),
  (167, .iload_n 1, 87, 1, 0, .null, true),
  (168, .iconst 3, 88, 0, 0, .int 3, false),
  (169, .if_icmp .ge 22, 89, 98, 0, .null, false),
  (172, .aload_n 0, 90, 0, 0, .null, false),
  (173, .getfield 25, 91, 5, 3, .null, false),
  (176, .iload_n 1, 92, 1, 0, .null, false),
  (177, .new 18, 93, 1, 0, .null, false),
  (180, .dup, 94, 0, 0, .null, false),
  (181, .invokespecial 20, 95, 7, 1, .null, false),
  (184, .aastore, 96, 0, 0, .null, false)]
def q_X5_init_3 : List mm_N := [(185, .iinc 1 1, 97, 1, 0, .int 1, false),
  (188, .goto (-21), 0, 86, 0, .null, false),
  (191, .return_, 0, 0, 0, .null, false)]
def q_X5_init : List (List mm_N) := [q_X5_init_0, q_X5_init_1, q_X5_init_2, q_X5_init_3]
def q_X5_row_0 : List mm_N := [(0, .aload_n 0, 1, 0, 0, .null, false),
  (1, .aload_n 0, 2, 0, 0, .null, false),
  (2, .getfield 11, 3, 5, 0, .null, false),
  (5, .iload_n 1, 4, 1, 0, .null, false),
  (6, .iload_n 2, 5, 2, 0, .null, false),
  (7, .iconst 0, 6, 0, 0, .int 0, false),
  (8, .invokevirtual 74, 7, 106, 5, .null, false),
  (11, .ireturn, 0, 0, 0, .null, false)]
def q_X5_row : List (List mm_N) := [q_X5_row_0]
def q_X5_lay_0 : List mm_N := [(0, .iload_n 1, 1, 1, 0, .null, false),
  (1, .bipush 6, 2, 0, 0, .int 6, false),
  (3, .invokestatic 78, 3, 100, 2, .null, false),
  (6, .ifCond .ne 5, 4, 6, 0, .null, false),
  (9, .iconst (-1), 5, 0, 0, .int (-1), false),
  (10, .ireturn, 0, 0, 0, .null, false),
  (11, .aload_n 0, 7, 0, 0, .null, false),
  (12, .aload_n 0, 8, 0, 0, .null, false),
  (13, .getfield 11, 9, 5, 0, .null, false),
  (16, .iload_n 1, 10, 1, 0, .null, false),
  (17, .aaload, 11, 0, 0, .null, false),
  (18, .iload_n 2, 12, 2, 0, .null, false),
  (19, .invokevirtual 82, 13, 107, 3, .null, false),
  (22, .istore 4, 14, 4, 0, .null, false),
  (24, .iload 4, 15, 4, 0, .null, false),
  (26, .ifCond .eq 8, 16, 18, 0, .null, false),
  (29, .iload 4, 17, 4, 0, .null, false),
  (31, .goto 18, 0, 27, 0, .null, false),
  (34, .aload_n 0, 19, 0, 0, .null, false),
  (35, .aload_n 0, 20, 0, 0, .null, false),
  (36, .getfield 11, 21, 5, 0, .null, false),
  (39, .iload_n 1, 22, 1, 0, .null, false),
  (40, .aaload, 23, 0, 0, .null, false),
  (41, .iload_n 2, 24, 2, 0, .null, false),
  (42, .iload_n 3, 25, 3, 0, .null, false),
  (43, .invokevirtual 86, 26, 39, 3, .null, false),
  (46, .invokevirtual 90, 27, 105, 2, .null, false),
  (49, .ireturn, 0, 0, 0, .null, true)]
def q_X5_lay : List (List mm_N) := [q_X5_lay_0]
def q_X5_at_0 : List mm_N := [(0, .iload_n 1, 1, 1, 0, .null, false),
  (1, .bipush 6, 2, 0, 0, .int 6, false),
  (3, .invokestatic 78, 3, 100, 2, .null, false),
  (6, .ifCond .ne 5, 4, 6, 0, .null, false),
  (9, .iconst (-1), 5, 0, 0, .int (-1), false),
  (10, .ireturn, 0, 0, 0, .null, false),
  (11, .aload_n 0, 7, 0, 0, .null, false),
  (12, .aload_n 0, 8, 0, 0, .null, false),
  (13, .getfield 11, 9, 5, 0, .null, false),
  (16, .iload_n 1, 10, 1, 0, .null, false),
  (17, .aaload, 11, 0, 0, .null, false),
  (18, .iload_n 2, 12, 2, 0, .null, false),
  (19, .invokevirtual 82, 13, 107, 3, .null, false),
  (22, .istore_n 3, 14, 3, 0, .null, false),
  (23, .iload_n 3, 15, 3, 0, .null, false),
  (24, .ifCond .eq 7, 16, 18, 0, .null, false),
  (27, .iload_n 3, 17, 3, 0, .null, false),
  (28, .goto 17, 0, 26, 0, .null, false),
  (31, .aload_n 0, 19, 0, 0, .null, false),
  (32, .aload_n 0, 20, 0, 0, .null, false),
  (33, .getfield 11, 21, 5, 0, .null, false),
  (36, .iload_n 1, 22, 1, 0, .null, false),
  (37, .aaload, 23, 0, 0, .null, false),
  (38, .iload_n 2, 24, 2, 0, .null, false),
  (39, .invokevirtual 94, 25, 38, 2, .null, false),
  (42, .invokevirtual 90, 26, 105, 2, .null, false),
  (45, .ireturn, 0, 0, 0, .null, true)]
def q_X5_at : List (List mm_N) := [q_X5_at_0]
def q_X5_tear_0 : List mm_N := [(0, .iload_n 1, 1, 1, 0, .null, false),
  (1, .bipush 6, 2, 0, 0, .int 6, false),
  (3, .invokestatic 78, 3, 100, 2, .null, false),
  (6, .ifCond .ne 5, 4, 6, 0, .null, false),
  (9, .iconst (-1), 5, 0, 0, .int (-1), false),
  (10, .ireturn, 0, 0, 0, .null, false),
  (11, .aload_n 0, 7, 0, 0, .null, false),
  (12, .getfield 11, 8, 5, 0, .null, false),
  (15, .iload_n 1, 9, 1, 0, .null, false),
  (16, .aaload, 10, 0, 0, .null, false),
  (17, .invokevirtual 97, 11, 35, 1, .null, false),
  (20, .ifCond .eq 9, 12, 16, 0, .null, false),
  (23, .aload_n 0, 13, 0, 0, .null, false),
  (24, .iconst 1, 14, 0, 0, .int 1, false),
  (25, .invokevirtual 101, 15, 104, 2, .null, false),
  (28, .ireturn, 0, 0, 0, .null, false),
  (29, .aload_n 0, 17, 0, 0, .null, false),
  (30, .getfield 11, 18, 5, 0, .null, false),
  (33, .iload_n 1, 19, 1, 0, .null, false),
  (34, .aaload, 20, 0, 0, .null, false),
  (35, .invokevirtual 104, 21, 41, 1, .null, false),
  (38, .iconst 1, 22, 0, 0, .int 1, false),
  (39, .ireturn, 0, 0, 0, .null, false)]
def q_X5_tear : List (List mm_N) := [q_X5_tear_0]
def q_X5_copy_0 : List mm_N := [(0, .iload_n 1, 1, 1, 0, .null, false),
  (1, .bipush 6, 2, 0, 0, .int 6, false),
  (3, .invokestatic 78, 3, 100, 2, .null, false),
  (6, .ifCond .eq 12, 4, 8, 0, .null, false),
  (9, .iload_n 3, 5, 3, 0, .null, false),
  (10, .bipush 6, 6, 0, 0, .int 6, false),
  (12, .invokestatic 78, 7, 100, 2, .null, false),
  (15, .ifCond .ne 5, 8, 10, 0, .null, false),
  (18, .iconst (-1), 9, 0, 0, .int (-1), true),
  (19, .ireturn, 0, 0, 0, .null, false),
  (20, .iload 5, 11, 5, 0, .null, false),
  (22, .ifCond .ge 9, 12, 16, 0, .null, false),
  (25, .aload_n 0, 13, 0, 0, .null, false),
  (26, .iconst 5, 14, 0, 0, .int 5, false),
  (27, .invokevirtual 101, 15, 104, 2, .null, false),
  (30, .ireturn, 0, 0, 0, .null, false),
  (31, .aload_n 0, 17, 0, 0, .null, false),
  (32, .getfield 11, 18, 5, 0, .null, false),
  (35, .iload_n 1, 19, 1, 0, .null, false),
  (36, .aaload, 20, 0, 0, .null, false),
  (37, .invokevirtual 97, 21, 35, 1, .null, false),
  (40, .ifCond .ne 15, 22, 28, 0, .null, false),
  (43, .aload_n 0, 23, 0, 0, .null, false),
  (44, .getfield 11, 24, 5, 0, .null, false),
  (47, .iload_n 3, 25, 3, 0, .null, false),
  (48, .aaload, 26, 0, 0, .null, false),
  (49, .invokevirtual 97, 27, 35, 1, .null, false),
  (52, .ifCond .eq 9, 28, 32, 0, .null, false),
  (55, .aload_n 0, 29, 0, 0, .null, true),
  (56, .iconst 1, 30, 0, 0, .int 1, false),
  (57, .invokevirtual 101, 31, 104, 2, .null, false),
  (60, .ireturn, 0, 0, 0, .null, false)]
def q_X5_copy_1 : List mm_N := [(61, .aload_n 0, 33, 0, 0, .null, false),
  (62, .getfield 11, 34, 5, 0, .null, false),
  (65, .iload_n 1, 35, 1, 0, .null, false),
  (66, .aaload, 36, 0, 0, .null, false),
  (67, .iload_n 2, 37, 2, 0, .null, false),
  (68, .iload 5, 38, 5, 0, .null, false),
  (70, .invokevirtual 107, 39, 37, 3, .null, false),
  (73, .ifCond .eq 19, 40, 48, 0, .null, false),
  (76, .aload_n 0, 41, 0, 0, .null, false),
  (77, .getfield 11, 42, 5, 0, .null, false),
  (80, .iload_n 3, 43, 3, 0, .null, false),
  (81, .aaload, 44, 0, 0, .null, false),
  (82, .iload 4, 45, 4, 0, .null, false),
  (84, .iload 5, 46, 5, 0, .null, false),
  (86, .invokevirtual 107, 47, 37, 3, .null, false),
  (89, .ifCond .ne 9, 48, 52, 0, .null, false),
  (92, .aload_n 0, 49, 0, 0, .null, true),
  (93, .iconst 2, 50, 0, 0, .int 2, false),
  (94, .invokevirtual 101, 51, 104, 2, .null, false),
  (97, .ireturn, 0, 0, 0, .null, false),
  (98, .aload_n 0, 53, 0, 0, .null, false),
  (99, .getfield 11, 54, 5, 0, .null, false),
  (102, .iload_n 1, 55, 1, 0, .null, false),
  (103, .aaload, 56, 0, 0, .null, false),
  (104, .getfield 110, 57, 3, 0, .null, false),
  (107, .iload_n 2, 58, 2, 0, .null, false),
  (108, .aload_n 0, 59, 0, 0, .null, false),
  (109, .getfield 11, 60, 5, 0, .null, false),
  (112, .iload_n 3, 61, 3, 0, .null, false),
  (113, .aaload, 62, 0, 0, .null, false),
  (114, .getfield 110, 63, 3, 0, .null, false),
  (117, .iload 4, 64, 4, 0, .null, false)]
def q_X5_copy_2 : List mm_N := [(119, .iload 5, 65, 5, 0, .null, false),
  (121, .invokestatic 113, 66, 1001, 5, .null, false),
  (124, .iconst 1, 67, 0, 0, .int 1, false),
  (125, .ireturn, 0, 0, 0, .null, false)]
def q_X5_copy : List (List mm_N) := [q_X5_copy_0, q_X5_copy_1, q_X5_copy_2]
def q_X5_mean_0 : List mm_N := [(0, .iload_n 1, 1, 1, 0, .null, false),
  (1, .bipush 6, 2, 0, 0, .int 6, false),
  (3, .invokestatic 78, 3, 100, 2, .null, false),
  (6, .ifCond .ne 5, 4, 6, 0, .null, false),
  (9, .iconst (-1), 5, 0, 0, .int (-1), false),
  (10, .ireturn, 0, 0, 0, .null, false),
  (11, .aload_n 0, 7, 0, 0, .null, false),
  (12, .getfield 11, 8, 5, 0, .null, false),
  (15, .iload_n 1, 9, 1, 0, .null, false),
  (16, .aaload, 10, 0, 0, .null, false),
  (17, .invokevirtual 97, 11, 35, 1, .null, false),
  (20, .ifCond .eq 9, 12, 16, 0, .null, false),
  (23, .aload_n 0, 13, 0, 0, .null, false),
  (24, .iconst 1, 14, 0, 0, .int 1, false),
  (25, .invokevirtual 101, 15, 104, 2, .null, false),
  (28, .ireturn, 0, 0, 0, .null, false),
  (29, .aload_n 0, 17, 0, 0, .null, false),
  (30, .getfield 11, 18, 5, 0, .null, false),
  (33, .iload_n 1, 19, 1, 0, .null, false),
  (34, .aaload, 20, 0, 0, .null, false),
  (35, .getfield 119, 21, 3, 1, .null, false),
  (38, .istore_n 2, 22, 2, 0, .null, false),
  (39, .iload_n 2, 23, 2, 0, .null, false),
  (40, .ifCond .ne 9, 24, 28, 0, .null, false),
  (43, .aload_n 0, 25, 0, 0, .null, false),
  (44, .iconst 4, 26, 0, 0, .int 4, false),
  (45, .invokevirtual 101, 27, 104, 2, .null, false),
  (48, .ireturn, 0, 0, 0, .null, false),
  (49, .aload_n 0, 29, 0, 0, .null, false),
  (50, .aload_n 0, 30, 0, 0, .null, false),
  (51, .getfield 11, 31, 5, 0, .null, false),
  (54, .iload_n 1, 32, 1, 0, .null, false)]
def q_X5_mean_1 : List mm_N := [(55, .aaload, 33, 0, 0, .null, false),
  (56, .invokevirtual 122, 34, 42, 1, .null, false),
  (59, .iload_n 2, 35, 2, 0, .null, false),
  (60, .i2l, 36, 0, 0, .null, false),
  (61, .ldiv, 37, 0, 0, .null, false),
  (62, .l2i, 38, 0, 0, .null, false),
  (63, .invokevirtual 90, 39, 105, 2, .null, false),
  (66, .ireturn, 0, 0, 0, .null, false)]
def q_X5_mean : List (List mm_N) := [q_X5_mean_0, q_X5_mean_1]
def q_X5_text_0 : List mm_N := [(0, .aload_n 0, 1, 0, 0, .null, false),
  (1, .aload_n 0, 2, 0, 0, .null, false),
  (2, .getfield 15, 3, 5, 1, .null, false),
  (5, .iload_n 1, 4, 1, 0, .null, false),
  (6, .iload_n 2, 5, 2, 0, .null, false),
  (7, .bipush 32, 6, 0, 0, .int 32, false),
  (9, .invokevirtual 74, 7, 106, 5, .null, false),
  (12, .ireturn, 0, 0, 0, .null, false)]
def q_X5_text : List (List mm_N) := [q_X5_text_0]
def q_X5_put_0 : List mm_N := [(0, .iload_n 1, 1, 1, 0, .null, false),
  (1, .iconst 4, 2, 0, 0, .int 4, false),
  (2, .invokestatic 78, 3, 100, 2, .null, false),
  (5, .ifCond .ne 5, 4, 6, 0, .null, false),
  (8, .iconst (-1), 5, 0, 0, .int (-1), false),
  (9, .ireturn, 0, 0, 0, .null, false),
  (10, .aload_n 0, 7, 0, 0, .null, false),
  (11, .aload_n 0, 8, 0, 0, .null, false),
  (12, .getfield 15, 9, 5, 1, .null, false),
  (15, .iload_n 1, 10, 1, 0, .null, false),
  (16, .aaload, 11, 0, 0, .null, false),
  (17, .iload_n 2, 12, 2, 0, .null, false),
  (18, .invokevirtual 82, 13, 107, 3, .null, false),
  (21, .istore 4, 14, 4, 0, .null, false),
  (23, .iload 4, 15, 4, 0, .null, false),
  (25, .ifCond .eq 8, 16, 18, 0, .null, false),
  (28, .iload 4, 17, 4, 0, .null, false),
  (30, .goto 19, 0, 28, 0, .null, false),
  (33, .aload_n 0, 19, 0, 0, .null, false),
  (34, .getfield 15, 20, 5, 1, .null, false),
  (37, .iload_n 1, 21, 1, 0, .null, false),
  (38, .aaload, 22, 0, 0, .null, false),
  (39, .iload_n 2, 23, 2, 0, .null, false),
  (40, .iload_n 3, 24, 3, 0, .null, false),
  (41, .i2b, 25, 0, 0, .null, false),
  (42, .invokevirtual 86, 26, 39, 3, .null, false),
  (45, .sipush 1000, 27, 0, 0, .int 1000, false),
  (48, .iadd, 28, 0, 0, .null, false),
  (49, .ireturn, 0, 0, 0, .null, true)]
def q_X5_put : List (List mm_N) := [q_X5_put_0]
def q_X5_fault_0 : List mm_N := [(0, .iload_n 1, 1, 1, 0, .null, false),
  (1, .iconst 4, 2, 0, 0, .int 4, false),
  (2, .invokestatic 78, 3, 100, 2, .null, false),
  (5, .ifCond .ne 5, 4, 6, 0, .null, false),
  (8, .iconst (-1), 5, 0, 0, .int (-1), false),
  (9, .ireturn, 0, 0, 0, .null, false),
  (10, .aload_n 0, 7, 0, 0, .null, false),
  (11, .getfield 15, 8, 5, 1, .null, false),
  (14, .iload_n 1, 9, 1, 0, .null, false),
  (15, .aaload, 10, 0, 0, .null, false),
  (16, .invokevirtual 97, 11, 35, 1, .null, false),
  (19, .ifCond .eq 9, 12, 16, 0, .null, false),
  (22, .aload_n 0, 13, 0, 0, .null, false),
  (23, .iconst 1, 14, 0, 0, .int 1, false),
  (24, .invokevirtual 101, 15, 104, 2, .null, false),
  (27, .ireturn, 0, 0, 0, .null, false),
  (28, .aload_n 0, 17, 0, 0, .null, false),
  (29, .getfield 32, 18, 5, 4, .null, false),
  (32, .aload_n 0, 19, 0, 0, .null, false),
  (33, .getfield 15, 20, 5, 1, .null, false),
  (36, .iload_n 1, 21, 1, 0, .null, false),
  (37, .aaload, 22, 0, 0, .null, false),
  (38, .invokevirtual 126, 23, 27, 2, .null, false),
  (41, .ireturn, 0, 0, 0, .null, false)]
def q_X5_fault : List (List mm_N) := [q_X5_fault_0]
def q_X5_court_0 : List mm_N := [(0, .iload_n 1, 1, 1, 0, .null, false),
  (1, .iconst 4, 2, 0, 0, .int 4, false),
  (2, .invokestatic 78, 3, 100, 2, .null, false),
  (5, .ifCond .ne 5, 4, 6, 0, .null, false),
  (8, .iconst (-1), 5, 0, 0, .int (-1), false),
  (9, .ireturn, 0, 0, 0, .null, false),
  (10, .aload_n 0, 7, 0, 0, .null, false),
  (11, .getfield 15, 8, 5, 1, .null, false),
  (14, .iload_n 1, 9, 1, 0, .null, false),
  (15, .aaload, 10, 0, 0, .null, false),
  (16, .invokevirtual 97, 11, 35, 1, .null, false),
  (19, .ifCond .eq 9, 12, 16, 0, .null, false),
  (22, .aload_n 0, 13, 0, 0, .null, false),
  (23, .iconst 1, 14, 0, 0, .int 1, false),
  (24, .invokevirtual 101, 15, 104, 2, .null, false),
  (27, .ireturn, 0, 0, 0, .null, false),
  (28, .aload_n 0, 17, 0, 0, .null, false),
  (29, .getfield 32, 18, 5, 4, .null, false),
  (32, .aload_n 0, 19, 0, 0, .null, false),
  (33, .getfield 15, 20, 5, 1, .null, false),
  (36, .iload_n 1, 21, 1, 0, .null, false),
  (37, .aaload, 22, 0, 0, .null, false),
  (38, .invokevirtual 126, 23, 27, 2, .null, false),
  (41, .bipush (-9), 24, 0, 0, .int (-9), false),
  (43, .if_icmp .eq 6, 25, 27, 0, .null, false),
  (46, .bipush (-4), 26, 0, 0, .int (-4), false),
  (48, .ireturn, 0, 0, 0, .null, false),
  (49, .aload_n 0, 28, 0, 0, .null, false),
  (50, .getfield 21, 29, 5, 2, .null, false),
  (53, .aload_n 0, 30, 0, 0, .null, false),
  (54, .getfield 32, 31, 5, 4, .null, false),
  (57, .getfield 130, 32, 2, 0, .null, false)]
def q_X5_court_1 : List mm_N := [(60, .invokevirtual 133, 33, 14, 2, .null, false),
  (63, .iconst 0, 34, 0, 0, .int 0, false),
  (64, .istore_n 2, 35, 2, 0, .null, false),
  (65, .iload_n 2, 36, 2, 0, .null, true),
  (66, .iconst 3, 37, 0, 0, .int 3, false),
  (67, .if_icmp .ge 19, 38, 46, 0, .null, false),
  (70, .aload_n 0, 39, 0, 0, .null, false),
  (71, .getfield 25, 40, 5, 3, .null, false),
  (74, .iload_n 2, 41, 2, 0, .null, false),
  (75, .aaload, 42, 0, 0, .null, false),
  (76, .iconst 0, 43, 0, 0, .int 0, false),
  (77, .invokevirtual 137, 44, 13, 2, .null, false),
  (80, .iinc 2 1, 45, 2, 0, .int 1, false),
  (83, .goto (-18), 0, 35, 0, .null, false),
  (86, .aload_n 0, 47, 0, 0, .null, false),
  (87, .getfield 21, 48, 5, 2, .null, false),
  (90, .getfield 140, 49, 1, 6, .null, false),
  (93, .ireturn, 0, 0, 0, .null, false)]
def q_X5_court : List (List mm_N) := [q_X5_court_0, q_X5_court_1]
def q_X5_ruling_0 : List mm_N := [(0, .aload_n 0, 1, 0, 0, .null, false),
  (1, .getfield 21, 2, 5, 2, .null, false),
  (4, .iload_n 1, 3, 1, 0, .null, false),
  (5, .invokevirtual 141, 4, 8, 2, .null, false),
  (8, .ifCond .eq 12, 5, 9, 0, .null, false),
  (11, .iload_n 2, 6, 2, 0, .null, false),
  (12, .bipush 7, 7, 0, 0, .int 7, false),
  (14, .invokestatic 78, 8, 100, 2, .null, false),
  (17, .ifCond .ne 5, 9, 11, 0, .null, false),
  (20, .iconst (-1), 10, 0, 0, .int (-1), true),
  (21, .ireturn, 0, 0, 0, .null, false),
  (22, .aload_n 0, 12, 0, 0, .null, false),
  (23, .aload_n 0, 13, 0, 0, .null, false),
  (24, .getfield 21, 14, 5, 2, .null, false),
  (27, .iload_n 1, 15, 1, 0, .null, false),
  (28, .iload_n 2, 16, 2, 0, .null, false),
  (29, .invokevirtual 145, 17, 15, 3, .null, false),
  (32, .invokevirtual 90, 18, 105, 2, .null, false),
  (35, .ireturn, 0, 0, 0, .null, false)]
def q_X5_ruling : List (List mm_N) := [q_X5_ruling_0]
def q_X5_mark_0 : List mm_N := [(0, .aload_n 0, 1, 0, 0, .null, false),
  (1, .getfield 21, 2, 5, 2, .null, false),
  (4, .iload_n 1, 3, 1, 0, .null, false),
  (5, .invokevirtual 141, 4, 8, 2, .null, false),
  (8, .ifCond .eq 16, 5, 11, 0, .null, false),
  (11, .iload_n 2, 6, 2, 0, .null, false),
  (12, .ifCond .eq 12, 7, 11, 0, .null, false),
  (15, .iload_n 2, 8, 2, 0, .null, false),
  (16, .bipush 6, 9, 0, 0, .int 6, false),
  (18, .invokestatic 78, 10, 100, 2, .null, false),
  (21, .ifCond .ne 5, 11, 13, 0, .null, false),
  (24, .iconst (-1), 12, 0, 0, .int (-1), true),
  (25, .ireturn, 0, 0, 0, .null, false),
  (26, .aload_n 0, 14, 0, 0, .null, false),
  (27, .getfield 21, 15, 5, 2, .null, false),
  (30, .getfield 148, 16, 1, 0, .null, false),
  (33, .iload_n 1, 17, 1, 0, .null, false),
  (34, .iaload, 18, 0, 0, .null, false),
  (35, .iload_n 2, 19, 2, 0, .null, false),
  (36, .invokestatic 151, 20, 102, 2, .null, false),
  (39, .ifCond .ne 9, 21, 25, 0, .null, false),
  (42, .aload_n 0, 22, 0, 0, .null, false),
  (43, .iconst 3, 23, 0, 0, .int 3, false),
  (44, .invokevirtual 101, 24, 104, 2, .null, false),
  (47, .ireturn, 0, 0, 0, .null, false),
  (48, .iload_n 2, 26, 2, 0, .null, false),
  (49, .tableswitch 72 1 4 #[31, 40, 50, 60], 0, 0, 50, .null, false),
  (80, .aload_n 0, 28, 0, 0, .null, false),
  (81, .getfield 21, 29, 5, 2, .null, false),
  (84, .iload_n 1, 30, 1, 0, .null, false),
  (85, .invokevirtual 154, 31, 17, 2, .null, false),
  (88, .ireturn, 0, 0, 0, .null, false)]
def q_X5_mark_1 : List mm_N := [(89, .aload_n 0, 33, 0, 0, .null, false),
  (90, .getfield 21, 34, 5, 2, .null, false),
  (93, .iload_n 1, 35, 1, 0, .null, false),
  (94, .iconst (-1), 36, 0, 0, .int (-1), false),
  (95, .invokevirtual 157, 37, 16, 3, .null, false),
  (98, .ireturn, 0, 0, 0, .null, false),
  (99, .aload_n 0, 39, 0, 0, .null, false),
  (100, .getfield 21, 40, 5, 2, .null, false),
  (103, .iload_n 1, 41, 1, 0, .null, false),
  (104, .iconst 1, 42, 0, 0, .int 1, false),
  (105, .invokevirtual 157, 43, 16, 3, .null, false),
  (108, .ireturn, 0, 0, 0, .null, false),
  (109, .aload_n 0, 45, 0, 0, .null, false),
  (110, .getfield 21, 46, 5, 2, .null, false),
  (113, .iload_n 1, 47, 1, 0, .null, false),
  (114, .invokevirtual 160, 48, 19, 2, .null, false),
  (117, .invokestatic 163, 49, 208, 1, .null, false),
  (120, .ireturn, 0, 0, 0, .null, false),
  (121, .aload_n 0, 51, 0, 0, .null, false),
  (122, .iconst 0, 52, 0, 0, .int 0, false),
  (123, .invokevirtual 168, 53, 109, 2, .null, false),
  (126, .aload_n 0, 54, 0, 0, .null, false),
  (127, .getfield 46, 55, 5, 6, .null, false),
  (130, .iload_n 1, 56, 1, 0, .null, false),
  (131, .invokevirtual 171, 57, 49, 2, .null, false),
  (134, .ireturn, 0, 0, 0, .null, false)]
def q_X5_mark : List (List mm_N) := [q_X5_mark_0, q_X5_mark_1]
def q_X5_reverse_0 : List mm_N := [(0, .aload_n 0, 1, 0, 0, .null, false),
  (1, .getfield 21, 2, 5, 2, .null, false),
  (4, .iload_n 1, 3, 1, 0, .null, false),
  (5, .invokevirtual 141, 4, 8, 2, .null, false),
  (8, .ifCond .eq 11, 5, 9, 0, .null, false),
  (11, .iload_n 2, 6, 2, 0, .null, false),
  (12, .iconst 2, 7, 0, 0, .int 2, false),
  (13, .invokestatic 78, 8, 100, 2, .null, false),
  (16, .ifCond .ne 5, 9, 11, 0, .null, false),
  (19, .iconst (-1), 10, 0, 0, .int (-1), true),
  (20, .ireturn, 0, 0, 0, .null, false),
  (21, .aload_n 0, 12, 0, 0, .null, false),
  (22, .getfield 21, 13, 5, 2, .null, false),
  (25, .getfield 174, 14, 1, 2, .null, false),
  (28, .iload_n 1, 15, 1, 0, .null, false),
  (29, .iaload, 16, 0, 0, .null, false),
  (30, .istore_n 3, 17, 3, 0, .null, false),
  (31, .aload_n 0, 18, 0, 0, .null, false),
  (32, .getfield 21, 19, 5, 2, .null, false),
  (35, .getfield 174, 20, 1, 2, .null, false),
  (38, .iload_n 1, 21, 1, 0, .null, false),
  (39, .iload_n 2, 22, 2, 0, .null, false),
  (40, .iastore, 23, 0, 0, .null, false),
  (41, .iload_n 3, 24, 3, 0, .null, false),
  (42, .ireturn, 0, 0, 0, .null, false)]
def q_X5_reverse : List (List mm_N) := [q_X5_reverse_0]
def q_X5_marks_0 : List mm_N := [(0, .aload_n 0, 1, 0, 0, .null, false),
  (1, .getfield 21, 2, 5, 2, .null, false),
  (4, .iload_n 1, 3, 1, 0, .null, false),
  (5, .invokevirtual 141, 4, 8, 2, .null, false),
  (8, .ifCond .eq 12, 5, 9, 0, .null, false),
  (11, .iload_n 2, 6, 2, 0, .null, false),
  (12, .bipush 32, 7, 0, 0, .int 32, false),
  (14, .invokestatic 78, 8, 100, 2, .null, false),
  (17, .ifCond .ne 5, 9, 11, 0, .null, false),
  (20, .iconst (-1), 10, 0, 0, .int (-1), true),
  (21, .ireturn, 0, 0, 0, .null, false),
  (22, .aload_n 0, 12, 0, 0, .null, false),
  (23, .getfield 21, 13, 5, 2, .null, false),
  (26, .getfield 177, 14, 1, 5, .null, false),
  (29, .iload_n 1, 15, 1, 0, .null, false),
  (30, .iaload, 16, 0, 0, .null, false),
  (31, .istore_n 3, 17, 3, 0, .null, false),
  (32, .aload_n 0, 18, 0, 0, .null, false),
  (33, .getfield 21, 19, 5, 2, .null, false),
  (36, .getfield 177, 20, 1, 5, .null, false),
  (39, .iload_n 1, 21, 1, 0, .null, false),
  (40, .iload_n 2, 22, 2, 0, .null, false),
  (41, .iastore, 23, 0, 0, .null, false),
  (42, .iload_n 3, 24, 3, 0, .null, false),
  (43, .ireturn, 0, 0, 0, .null, false)]
def q_X5_marks : List (List mm_N) := [q_X5_marks_0]
def q_X5_file_0 : List mm_N := [(0, .iload_n 1, 1, 1, 0, .null, false),
  (1, .bipush 6, 2, 0, 0, .int 6, false),
  (3, .invokestatic 78, 3, 100, 2, .null, false),
  (6, .ifCond .eq 20, 4, 12, 0, .null, false),
  (9, .iload_n 2, 5, 2, 0, .null, false),
  (10, .bipush 10, 6, 0, 0, .int 10, false),
  (12, .invokestatic 78, 7, 100, 2, .null, false),
  (15, .ifCond .eq 11, 8, 12, 0, .null, false),
  (18, .iload_n 3, 9, 3, 0, .null, false),
  (19, .iconst 2, 10, 0, 0, .int 2, false),
  (20, .invokestatic 78, 11, 100, 2, .null, false),
  (23, .ifCond .ne 5, 12, 14, 0, .null, false),
  (26, .iconst (-1), 13, 0, 0, .int (-1), true),
  (27, .ireturn, 0, 0, 0, .null, false),
  (28, .iload 4, 15, 4, 0, .null, false),
  (30, .bipush (-9), 16, 0, 0, .int (-9), false),
  (32, .if_icmp .ne 12, 17, 21, 0, .null, false),
  (35, .iload 5, 18, 5, 0, .null, false),
  (37, .ifCond .ne 7, 19, 21, 0, .null, false),
  (40, .iconst 1, 20, 0, 0, .int 1, false),
  (41, .goto 4, 0, 22, 0, .null, false),
  (44, .iconst 0, 22, 0, 0, .int 0, true),
  (45, .istore 6, 23, 6, 0, .null, true),
  (47, .aload_n 0, 24, 0, 0, .null, false),
  (48, .getfield 21, 25, 5, 2, .null, false),
  (51, .iload 4, 26, 4, 0, .null, false),
  (53, .iload_n 2, 27, 2, 0, .null, false),
  (54, .invokevirtual 180, 28, 10, 3, .null, false),
  (57, .ifCond .eq 19, 29, 37, 0, .null, false),
  (60, .iload 5, 30, 5, 0, .null, false),
  (62, .iconst 1, 31, 0, 0, .int 1, false),
  (63, .if_icmp .eq 9, 32, 35, 0, .null, false)]
def q_X5_file_1 : List mm_N := [(66, .iload 5, 33, 5, 0, .null, false),
  (68, .iconst (-1), 34, 0, 0, .int (-1), false),
  (69, .if_icmp .ne 7, 35, 37, 0, .null, false),
  (72, .iconst 1, 36, 0, 0, .int 1, true),
  (73, .goto 4, 0, 38, 0, .null, false),
  (76, .iconst 0, 38, 0, 0, .int 0, true),
  (77, .istore 7, 39, 7, 0, .null, true),
  (79, .iload 6, 40, 6, 0, .null, false),
  (81, .ifCond .ne 10, 41, 45, 0, .null, false),
  (84, .iload 7, 42, 7, 0, .null, false),
  (86, .ifCond .ne 5, 43, 45, 0, .null, false),
  (89, .iconst (-1), 44, 0, 0, .int (-1), false),
  (90, .ireturn, 0, 0, 0, .null, false),
  (91, .aload_n 0, 46, 0, 0, .null, true),
  (92, .getfield 21, 47, 5, 2, .null, false),
  (95, .getfield 140, 48, 1, 6, .null, false),
  (98, .bipush 9, 49, 0, 0, .int 9, false),
  (100, .if_icmp .lt 6, 50, 52, 0, .null, false),
  (103, .bipush (-2), 51, 0, 0, .int (-2), false),
  (105, .ireturn, 0, 0, 0, .null, false),
  (106, .aload_n 0, 53, 0, 0, .null, false),
  (107, .getfield 21, 54, 5, 2, .null, false),
  (110, .iload_n 1, 55, 1, 0, .null, false),
  (111, .iload_n 2, 56, 2, 0, .null, false),
  (112, .iload_n 3, 57, 3, 0, .null, false),
  (113, .iload 4, 58, 4, 0, .null, false),
  (115, .iload 5, 59, 5, 0, .null, false),
  (117, .iconst 0, 60, 0, 0, .int 0, false),
  (118, .invokevirtual 183, 61, 12, 7, .null, false),
  (121, .aload_n 0, 62, 0, 0, .null, false),
  (122, .getfield 21, 63, 5, 2, .null, false),
  (125, .getfield 140, 64, 1, 6, .null, false)]
def q_X5_file_2 : List mm_N := [(128, .iconst 1, 65, 0, 0, .int 1, false),
  (129, .isub, 66, 0, 0, .null, false),
  (130, .ireturn, 0, 0, 0, .null, false)]
def q_X5_file : List (List mm_N) := [q_X5_file_0, q_X5_file_1, q_X5_file_2]
def q_X5_strike_0 : List mm_N := [(0, .iload_n 1, 1, 1, 0, .null, false),
  (1, .ifCond .lt 14, 2, 7, 0, .null, false),
  (4, .iload_n 1, 3, 1, 0, .null, false),
  (5, .aload_n 0, 4, 0, 0, .null, false),
  (6, .getfield 21, 5, 5, 2, .null, false),
  (9, .getfield 140, 6, 1, 6, .null, false),
  (12, .if_icmp .le 5, 7, 9, 0, .null, false),
  (15, .iconst (-1), 8, 0, 0, .int (-1), true),
  (16, .ireturn, 0, 0, 0, .null, false),
  (17, .aload_n 0, 10, 0, 0, .null, false),
  (18, .getfield 21, 11, 5, 2, .null, false),
  (21, .getfield 140, 12, 1, 6, .null, false),
  (24, .iload_n 1, 13, 1, 0, .null, false),
  (25, .isub, 14, 0, 0, .null, false),
  (26, .istore_n 2, 15, 2, 0, .null, false),
  (27, .aload_n 0, 16, 0, 0, .null, false),
  (28, .getfield 21, 17, 5, 2, .null, false),
  (31, .iload_n 1, 18, 1, 0, .null, false),
  (32, .invokevirtual 137, 19, 13, 2, .null, false),
  (35, .iload_n 2, 20, 2, 0, .null, false),
  (36, .ireturn, 0, 0, 0, .null, false)]
def q_X5_strike : List (List mm_N) := [q_X5_strike_0]
def q_X5_keep_0 : List mm_N := [(0, .iload_n 1, 1, 1, 0, .null, false),
  (1, .iconst 3, 2, 0, 0, .int 3, false),
  (2, .invokestatic 78, 3, 100, 2, .null, false),
  (5, .ifCond .ne 5, 4, 6, 0, .null, false),
  (8, .iconst (-1), 5, 0, 0, .int (-1), false),
  (9, .ireturn, 0, 0, 0, .null, false),
  (10, .aload_n 0, 7, 0, 0, .null, false),
  (11, .getfield 21, 8, 5, 2, .null, false),
  (14, .getfield 140, 9, 1, 6, .null, false),
  (17, .ifCond .ne 6, 10, 12, 0, .null, false),
  (20, .bipush (-4), 11, 0, 0, .int (-4), false),
  (22, .ireturn, 0, 0, 0, .null, false),
  (23, .aload_n 0, 13, 0, 0, .null, false),
  (24, .getfield 25, 14, 5, 3, .null, false),
  (27, .iload_n 1, 15, 1, 0, .null, false),
  (28, .aaload, 16, 0, 0, .null, false),
  (29, .aload_n 0, 17, 0, 0, .null, false),
  (30, .getfield 21, 18, 5, 2, .null, false),
  (33, .invokevirtual 133, 19, 14, 2, .null, false),
  (36, .aload_n 0, 20, 0, 0, .null, false),
  (37, .getfield 21, 21, 5, 2, .null, false),
  (40, .getfield 140, 22, 1, 6, .null, false),
  (43, .ireturn, 0, 0, 0, .null, false)]
def q_X5_keep : List (List mm_N) := [q_X5_keep_0]
def q_X5_on_0 : List mm_N := [(0, .iload_n 1, 1, 1, 0, .null, false),
  (1, .iconst 3, 2, 0, 0, .int 3, false),
  (2, .invokestatic 78, 3, 100, 2, .null, false),
  (5, .ifCond .ne 5, 4, 6, 0, .null, false),
  (8, .iconst (-1), 5, 0, 0, .int (-1), false),
  (9, .ireturn, 0, 0, 0, .null, false),
  (10, .aload_n 0, 7, 0, 0, .null, false),
  (11, .iload_n 1, 8, 1, 0, .null, false),
  (12, .invokevirtual 187, 9, 108, 2, .null, false),
  (15, .ifCond .ne 9, 10, 14, 0, .null, false),
  (18, .aload_n 0, 11, 0, 0, .null, false),
  (19, .iconst 1, 12, 0, 0, .int 1, false),
  (20, .invokevirtual 101, 13, 104, 2, .null, false),
  (23, .ireturn, 0, 0, 0, .null, false),
  (24, .aload_n 0, 15, 0, 0, .null, false),
  (25, .getfield 21, 16, 5, 2, .null, false),
  (28, .aload_n 0, 17, 0, 0, .null, false),
  (29, .getfield 25, 18, 5, 3, .null, false),
  (32, .iload_n 1, 19, 1, 0, .null, false),
  (33, .aaload, 20, 0, 0, .null, false),
  (34, .invokevirtual 133, 21, 14, 2, .null, false),
  (37, .aload_n 0, 22, 0, 0, .null, false),
  (38, .getfield 21, 23, 5, 2, .null, false),
  (41, .getfield 140, 24, 1, 6, .null, false),
  (44, .ireturn, 0, 0, 0, .null, false)]
def q_X5_on : List (List mm_N) := [q_X5_on_0]
def q_X5_due_0 : List mm_N := [(0, .iload_n 1, 1, 1, 0, .null, false),
  (1, .iconst 1, 2, 0, 0, .int 1, false),
  (2, .aload_n 0, 3, 0, 0, .null, false),
  (3, .getfield 21, 4, 5, 2, .null, false),
  (6, .getfield 140, 5, 1, 6, .null, false),
  (9, .ishl, 6, 0, 0, .null, false),
  (10, .invokestatic 78, 7, 100, 2, .null, false),
  (13, .ifCond .ne 5, 8, 10, 0, .null, false),
  (16, .iconst (-1), 9, 0, 0, .int (-1), false),
  (17, .ireturn, 0, 0, 0, .null, false),
  (18, .aload_n 0, 11, 0, 0, .null, false),
  (19, .getfield 39, 12, 5, 5, .null, false),
  (22, .aload_n 0, 13, 0, 0, .null, false),
  (23, .getfield 21, 14, 5, 2, .null, false),
  (26, .invokevirtual 190, 15, 1, 2, .null, false),
  (29, .iconst 0, 16, 0, 0, .int 0, false),
  (30, .istore_n 2, 17, 2, 0, .null, false),
  (31, .iconst 0, 18, 0, 0, .int 0, false),
  (32, .istore_n 3, 19, 3, 0, .null, false),
  (33, .iload_n 3, 20, 3, 0, .null, true),
  (34, .aload_n 0, 21, 0, 0, .null, false),
  (35, .getfield 21, 22, 5, 2, .null, false),
  (38, .getfield 140, 23, 1, 6, .null, false),
  (41, .if_icmp .ge 27, 24, 38, 0, .null, false),
  (44, .aload_n 0, 25, 0, 0, .null, false),
  (45, .getfield 39, 26, 5, 5, .null, false),
  (48, .iload_n 3, 27, 3, 0, .null, false),
  (49, .iload_n 1, 28, 1, 0, .null, false),
  (50, .invokevirtual 193, 29, 4, 3, .null, false),
  (53, .ifCond .eq 9, 30, 36, 0, .null, false),
  (56, .iload_n 2, 31, 2, 0, .null, false),
  (57, .iconst 1, 32, 0, 0, .int 1, false)]
def q_X5_due_1 : List mm_N := [(58, .iload_n 3, 33, 3, 0, .null, false),
  (59, .ishl, 34, 0, 0, .null, false),
  (60, .ior, 35, 0, 0, .null, false),
  (61, .istore_n 2, 36, 2, 0, .null, false),
  (62, .iinc 3 1, 37, 3, 0, .int 1, true),
  (65, .goto (-32), 0, 19, 0, .null, false),
  (68, .iload_n 2, 39, 2, 0, .null, false),
  (69, .ireturn, 0, 0, 0, .null, false)]
def q_X5_due : List (List mm_N) := [q_X5_due_0, q_X5_due_1]
def q_X5_ways_0 : List mm_N := [(0, .aload_n 0, 1, 0, 0, .null, false),
  (1, .iconst 0, 2, 0, 0, .int 0, false),
  (2, .invokevirtual 168, 3, 109, 2, .null, false),
  (5, .aload_n 0, 4, 0, 0, .null, false),
  (6, .aload_n 0, 5, 0, 0, .null, false),
  (7, .getfield 46, 6, 5, 6, .null, false),
  (10, .invokevirtual 196, 7, 46, 1, .null, false),
  (13, .putfield 61, 8, 5, 10, .null, false),
  (16, .aload_n 0, 9, 0, 0, .null, false),
  (17, .getfield 46, 10, 5, 6, .null, false),
  (20, .getfield 200, 11, 4, 1, .null, false),
  (23, .ireturn, 0, 0, 0, .null, false)]
def q_X5_ways : List (List mm_N) := [q_X5_ways_0]
def q_X5_nth_0 : List mm_N := [(0, .iload_n 1, 1, 1, 0, .null, false),
  (1, .ifCond .ge 5, 2, 4, 0, .null, false),
  (4, .iconst (-1), 3, 0, 0, .int (-1), false),
  (5, .ireturn, 0, 0, 0, .null, false),
  (6, .aload_n 0, 5, 0, 0, .null, false),
  (7, .iconst 0, 6, 0, 0, .int 0, false),
  (8, .invokevirtual 168, 7, 109, 2, .null, false),
  (11, .iload_n 1, 8, 1, 0, .null, false),
  (12, .aload_n 0, 9, 0, 0, .null, false),
  (13, .getfield 46, 10, 5, 6, .null, false),
  (16, .getfield 200, 11, 4, 1, .null, false),
  (19, .if_icmp .ge 15, 12, 18, 0, .null, false),
  (22, .aload_n 0, 13, 0, 0, .null, false),
  (23, .getfield 46, 14, 5, 6, .null, false),
  (26, .getfield 203, 15, 4, 0, .null, false),
  (29, .iload_n 1, 16, 1, 0, .null, false),
  (30, .iaload, 17, 0, 0, .null, false),
  (31, .goto 8, 0, 21, 0, .null, false),
  (34, .aload_n 0, 19, 0, 0, .null, false),
  (35, .iconst 4, 20, 0, 0, .int 4, false),
  (36, .invokevirtual 101, 21, 104, 2, .null, false),
  (39, .ireturn, 0, 0, 0, .null, true)]
def q_X5_nth : List (List mm_N) := [q_X5_nth_0]
def q_X5_sure_0 : List mm_N := [(0, .aload_n 0, 1, 0, 0, .null, false),
  (1, .iconst 0, 2, 0, 0, .int 0, false),
  (2, .invokevirtual 168, 3, 109, 2, .null, false),
  (5, .aload_n 0, 4, 0, 0, .null, false),
  (6, .aload_n 0, 5, 0, 0, .null, false),
  (7, .getfield 46, 6, 5, 6, .null, false),
  (10, .invokevirtual 206, 7, 48, 1, .null, false),
  (13, .putfield 61, 8, 5, 10, .null, false),
  (16, .aload_n 0, 9, 0, 0, .null, false),
  (17, .getfield 46, 10, 5, 6, .null, false),
  (20, .invokevirtual 209, 11, 47, 1, .null, false),
  (23, .ireturn, 0, 0, 0, .null, false)]
def q_X5_sure : List (List mm_N) := [q_X5_sure_0]
def q_X5_odds_0 : List mm_N := [(0, .aload_n 0, 1, 0, 0, .null, false),
  (1, .getfield 21, 2, 5, 2, .null, false),
  (4, .iload_n 1, 3, 1, 0, .null, false),
  (5, .invokevirtual 141, 4, 8, 2, .null, false),
  (8, .ifCond .ne 5, 5, 7, 0, .null, false),
  (11, .iconst (-1), 6, 0, 0, .int (-1), false),
  (12, .ireturn, 0, 0, 0, .null, false),
  (13, .aload_n 0, 8, 0, 0, .null, false),
  (14, .iconst 0, 9, 0, 0, .int 0, false),
  (15, .invokevirtual 168, 10, 109, 2, .null, false),
  (18, .aload_n 0, 11, 0, 0, .null, false),
  (19, .getfield 46, 12, 5, 6, .null, false),
  (22, .getfield 200, 13, 4, 1, .null, false),
  (25, .ifCond .ne 9, 14, 18, 0, .null, false),
  (28, .aload_n 0, 15, 0, 0, .null, false),
  (29, .iconst 4, 16, 0, 0, .int 4, false),
  (30, .invokevirtual 101, 17, 104, 2, .null, false),
  (33, .ireturn, 0, 0, 0, .null, false),
  (34, .aload_n 0, 19, 0, 0, .null, false),
  (35, .getfield 46, 20, 5, 6, .null, false),
  (38, .iload_n 1, 21, 1, 0, .null, false),
  (39, .invokevirtual 171, 22, 49, 2, .null, false),
  (42, .istore_n 2, 23, 2, 0, .null, false),
  (43, .iload_n 2, 24, 2, 0, .null, false),
  (44, .aload_n 0, 25, 0, 0, .null, false),
  (45, .getfield 46, 26, 5, 6, .null, false),
  (48, .getfield 200, 27, 4, 1, .null, false),
  (51, .invokestatic 212, 28, 103, 2, .null, false),
  (54, .istore_n 3, 29, 3, 0, .null, false),
  (55, .aload_n 0, 30, 0, 0, .null, false),
  (56, .iload_n 2, 31, 2, 0, .null, false),
  (57, .iload_n 3, 32, 3, 0, .null, false)]
def q_X5_odds_1 : List mm_N := [(58, .idiv, 33, 0, 0, .null, false),
  (59, .i2l, 34, 0, 0, .null, false),
  (60, .putfield 64, 35, 5, 11, .null, false),
  (63, .aload_n 0, 36, 0, 0, .null, false),
  (64, .aload_n 0, 37, 0, 0, .null, false),
  (65, .getfield 46, 38, 5, 6, .null, false),
  (68, .getfield 200, 39, 4, 1, .null, false),
  (71, .iload_n 3, 40, 3, 0, .null, false),
  (72, .idiv, 41, 0, 0, .null, false),
  (73, .i2l, 42, 0, 0, .null, false),
  (74, .putfield 68, 43, 5, 12, .null, false),
  (77, .iconst 1, 44, 0, 0, .int 1, false),
  (78, .ireturn, 0, 0, 0, .null, false)]
def q_X5_odds : List (List mm_N) := [q_X5_odds_0, q_X5_odds_1]
def q_X5_together_0 : List mm_N := [(0, .aload_n 0, 1, 0, 0, .null, false),
  (1, .getfield 21, 2, 5, 2, .null, false),
  (4, .iload_n 1, 3, 1, 0, .null, false),
  (5, .invokevirtual 141, 4, 8, 2, .null, false),
  (8, .ifCond .ne 5, 5, 7, 0, .null, false),
  (11, .iconst (-1), 6, 0, 0, .int (-1), false),
  (12, .ireturn, 0, 0, 0, .null, false),
  (13, .aload_n 0, 8, 0, 0, .null, false),
  (14, .iconst 0, 9, 0, 0, .int 0, false),
  (15, .invokevirtual 168, 10, 109, 2, .null, false),
  (18, .aload_n 0, 11, 0, 0, .null, false),
  (19, .getfield 46, 12, 5, 6, .null, false),
  (22, .getfield 200, 13, 4, 1, .null, false),
  (25, .ifCond .ne 9, 14, 18, 0, .null, false),
  (28, .aload_n 0, 15, 0, 0, .null, false),
  (29, .iconst 4, 16, 0, 0, .int 4, false),
  (30, .invokevirtual 101, 17, 104, 2, .null, false),
  (33, .ireturn, 0, 0, 0, .null, false),
  (34, .aload_n 0, 19, 0, 0, .null, false),
  (35, .getfield 21, 20, 5, 2, .null, false),
  (38, .invokevirtual 215, 21, 9, 1, .null, false),
  (41, .istore_n 2, 22, 2, 0, .null, false),
  (42, .iconst 0, 23, 0, 0, .int 0, false),
  (43, .istore_n 3, 24, 3, 0, .null, false),
  (44, .iload_n 3, 25, 3, 0, .null, true),
  (45, .aload_n 0, 26, 0, 0, .null, false),
  (46, .getfield 46, 27, 5, 6, .null, false),
  (49, .getfield 200, 28, 4, 1, .null, false),
  (52, .if_icmp .ge 41, 29, 49, 0, .null, false),
  (55, .aload_n 0, 30, 0, 0, .null, false),
  (56, .getfield 46, 31, 5, 6, .null, false),
  (59, .getfield 203, 32, 4, 0, .null, false)]
def q_X5_together_1 : List mm_N := [(62, .iload_n 3, 33, 3, 0, .null, false),
  (63, .iaload, 34, 0, 0, .null, false),
  (64, .istore 4, 35, 4, 0, .null, false),
  (66, .iload_n 2, 36, 2, 0, .null, false),
  (67, .iload 4, 37, 4, 0, .null, false),
  (69, .iload_n 1, 38, 1, 0, .null, false),
  (70, .invokestatic 218, 39, 101, 2, .null, false),
  (73, .ifCond .eq 8, 40, 42, 0, .null, false),
  (76, .iload 4, 41, 4, 0, .null, false),
  (78, .goto 7, 0, 45, 0, .null, false),
  (81, .iload 4, 43, 4, 0, .null, false),
  (83, .iconst (-1), 44, 0, 0, .int (-1), false),
  (84, .ixor, 45, 0, 0, .null, false),
  (85, .iand, 46, 0, 0, .null, true),
  (86, .istore_n 2, 47, 2, 0, .null, false),
  (87, .iinc 3 1, 48, 3, 0, .int 1, false),
  (90, .goto (-46), 0, 24, 0, .null, false),
  (93, .iload_n 2, 50, 2, 0, .null, false),
  (94, .ireturn, 0, 0, 0, .null, false)]
def q_X5_together : List (List mm_N) := [q_X5_together_0, q_X5_together_1]
def q_X5_till_0 : List mm_N := [(0, .iload_n 1, 1, 1, 0, .null, false),
  (1, .bipush 10, 2, 0, 0, .int 10, false),
  (3, .invokestatic 78, 3, 100, 2, .null, false),
  (6, .ifCond .ne 5, 4, 6, 0, .null, false),
  (9, .iconst (-1), 5, 0, 0, .int (-1), false),
  (10, .ireturn, 0, 0, 0, .null, false),
  (11, .aload_n 0, 7, 0, 0, .null, false),
  (12, .aload_n 0, 8, 0, 0, .null, false),
  (13, .getfield 21, 9, 5, 2, .null, false),
  (16, .iload_n 1, 10, 1, 0, .null, false),
  (17, .invokevirtual 221, 11, 20, 2, .null, false),
  (20, .invokevirtual 168, 12, 109, 2, .null, false),
  (23, .aload_n 0, 13, 0, 0, .null, false),
  (24, .aload_n 0, 14, 0, 0, .null, false),
  (25, .getfield 46, 15, 5, 6, .null, false),
  (28, .invokevirtual 196, 16, 46, 1, .null, false),
  (31, .putfield 61, 17, 5, 10, .null, false),
  (34, .aload_n 0, 18, 0, 0, .null, false),
  (35, .getfield 46, 19, 5, 6, .null, false),
  (38, .getfield 200, 20, 4, 1, .null, false),
  (41, .ireturn, 0, 0, 0, .null, false)]
def q_X5_till : List (List mm_N) := [q_X5_till_0]
def q_X5_flips_0 : List mm_N := [(0, .aload_n 0, 1, 0, 0, .null, false),
  (1, .getfield 21, 2, 5, 2, .null, false),
  (4, .iload_n 1, 3, 1, 0, .null, false),
  (5, .invokevirtual 141, 4, 8, 2, .null, false),
  (8, .ifCond .ne 5, 5, 7, 0, .null, false),
  (11, .iconst (-1), 6, 0, 0, .int (-1), false),
  (12, .ireturn, 0, 0, 0, .null, false),
  (13, .iconst 0, 8, 0, 0, .int 0, false),
  (14, .istore_n 2, 9, 2, 0, .null, false),
  (15, .iconst 0, 10, 0, 0, .int 0, false),
  (16, .istore_n 3, 11, 3, 0, .null, false),
  (17, .aload_n 0, 12, 0, 0, .null, false),
  (18, .getfield 21, 13, 5, 2, .null, false),
  (21, .getfield 224, 14, 1, 1, .null, false),
  (24, .iload_n 1, 15, 1, 0, .null, false),
  (25, .iaload, 16, 0, 0, .null, false),
  (26, .istore 4, 17, 4, 0, .null, false),
  (28, .iload 4, 18, 4, 0, .null, true),
  (30, .bipush 10, 19, 0, 0, .int 10, false),
  (32, .if_icmp .ge 84, 20, 60, 0, .null, false),
  (35, .aload_n 0, 21, 0, 0, .null, false),
  (36, .aload_n 0, 22, 0, 0, .null, false),
  (37, .getfield 21, 23, 5, 2, .null, false),
  (40, .iload 4, 24, 4, 0, .null, false),
  (42, .invokevirtual 221, 25, 20, 2, .null, false),
  (45, .invokevirtual 168, 26, 109, 2, .null, false),
  (48, .aload_n 0, 27, 0, 0, .null, false),
  (49, .getfield 46, 28, 5, 6, .null, false),
  (52, .invokevirtual 209, 29, 47, 1, .null, false),
  (55, .iload_n 1, 30, 1, 0, .null, false),
  (56, .invokestatic 218, 31, 101, 2, .null, false),
  (59, .ifCond .eq 7, 32, 34, 0, .null, false)]
def q_X5_flips_1 : List mm_N := [(62, .iconst 1, 33, 0, 0, .int 1, false),
  (63, .goto 22, 0, 43, 0, .null, false),
  (66, .aload_n 0, 35, 0, 0, .null, false),
  (67, .getfield 46, 36, 5, 6, .null, false),
  (70, .invokevirtual 206, 37, 48, 1, .null, false),
  (73, .iload_n 1, 38, 1, 0, .null, false),
  (74, .invokestatic 218, 39, 101, 2, .null, false),
  (77, .ifCond .eq 7, 40, 42, 0, .null, false),
  (80, .iconst (-1), 41, 0, 0, .int (-1), false),
  (81, .goto 4, 0, 43, 0, .null, false),
  (84, .iconst 0, 43, 0, 0, .int 0, false),
  (85, .istore 5, 44, 5, 0, .null, true),
  (87, .iload 5, 45, 5, 0, .null, false),
  (89, .ifCond .eq 21, 46, 58, 0, .null, false),
  (92, .iload_n 2, 47, 2, 0, .null, false),
  (93, .iload 5, 48, 5, 0, .null, false),
  (95, .iload_n 3, 49, 3, 0, .null, false),
  (96, .ineg, 50, 0, 0, .null, false),
  (97, .if_icmp .ne 7, 51, 53, 0, .null, false),
  (100, .iconst 1, 52, 0, 0, .int 1, false),
  (101, .goto 4, 0, 54, 0, .null, false),
  (104, .iconst 0, 54, 0, 0, .int 0, false),
  (105, .iadd, 55, 0, 0, .null, true),
  (106, .istore_n 2, 56, 2, 0, .null, false),
  (107, .iload 5, 57, 5, 0, .null, false),
  (109, .istore_n 3, 58, 3, 0, .null, false),
  (110, .iinc 4 1, 59, 4, 0, .int 1, true),
  (113, .goto (-85), 0, 17, 0, .null, false),
  (116, .iload_n 2, 61, 2, 0, .null, false),
  (117, .ireturn, 0, 0, 0, .null, false)]
def q_X5_flips : List (List mm_N) := [q_X5_flips_0, q_X5_flips_1]
def q_X5_jam_0 : List mm_N := [(0, .iconst 0, 1, 0, 0, .int 0, false),
  (1, .istore_n 1, 2, 1, 0, .null, false),
  (2, .iload_n 1, 3, 1, 0, .null, true),
  (3, .bipush 10, 4, 0, 0, .int 10, false),
  (5, .if_icmp .ge 33, 5, 19, 0, .null, false),
  (8, .aload_n 0, 6, 0, 0, .null, false),
  (9, .aload_n 0, 7, 0, 0, .null, false),
  (10, .getfield 21, 8, 5, 2, .null, false),
  (13, .iload_n 1, 9, 1, 0, .null, false),
  (14, .invokevirtual 221, 10, 20, 2, .null, false),
  (17, .invokevirtual 168, 11, 109, 2, .null, false),
  (20, .aload_n 0, 12, 0, 0, .null, false),
  (21, .getfield 46, 13, 5, 6, .null, false),
  (24, .getfield 200, 14, 4, 1, .null, false),
  (27, .ifCond .ne 5, 15, 17, 0, .null, false),
  (30, .iload_n 1, 16, 1, 0, .null, false),
  (31, .ireturn, 0, 0, 0, .null, false),
  (32, .iinc 1 1, 18, 1, 0, .int 1, false),
  (35, .goto (-33), 0, 2, 0, .null, false),
  (38, .bipush (-9), 20, 0, 0, .int (-9), false),
  (40, .ireturn, 0, 0, 0, .null, false)]
def q_X5_jam : List (List mm_N) := [q_X5_jam_0]
def q_X5_fell_0 : List mm_N := [(0, .aload_n 0, 1, 0, 0, .null, false),
  (1, .getfield 21, 2, 5, 2, .null, false),
  (4, .iload_n 1, 3, 1, 0, .null, false),
  (5, .invokevirtual 141, 4, 8, 2, .null, false),
  (8, .ifCond .eq 22, 5, 15, 0, .null, false),
  (11, .iload_n 2, 6, 2, 0, .null, false),
  (12, .bipush 6, 7, 0, 0, .int 6, false),
  (14, .invokestatic 78, 8, 100, 2, .null, false),
  (17, .ifCond .eq 13, 9, 15, 0, .null, false),
  (20, .aload_n 0, 10, 0, 0, .null, false),
  (21, .iconst 0, 11, 0, 0, .int 0, false),
  (22, .iload_n 1, 12, 1, 0, .null, false),
  (23, .iload_n 2, 13, 2, 0, .null, false),
  (24, .invokevirtual 227, 14, 110, 4, .null, false),
  (27, .goto 4, 0, 16, 0, .null, false),
  (30, .iconst (-1), 16, 0, 0, .int (-1), true),
  (31, .ireturn, 0, 0, 0, .null, true)]
def q_X5_fell : List (List mm_N) := [q_X5_fell_0]
def q_X5_guard_0 : List mm_N := [(0, .aload_n 0, 1, 0, 0, .null, false),
  (1, .getfield 21, 2, 5, 2, .null, false),
  (4, .iload_n 1, 3, 1, 0, .null, false),
  (5, .invokevirtual 141, 4, 8, 2, .null, false),
  (8, .ifCond .eq 22, 5, 15, 0, .null, false),
  (11, .iload_n 2, 6, 2, 0, .null, false),
  (12, .bipush 6, 7, 0, 0, .int 6, false),
  (14, .invokestatic 78, 8, 100, 2, .null, false),
  (17, .ifCond .eq 13, 9, 15, 0, .null, false),
  (20, .aload_n 0, 10, 0, 0, .null, false),
  (21, .iconst 1, 11, 0, 0, .int 1, false),
  (22, .iload_n 1, 12, 1, 0, .null, false),
  (23, .iload_n 2, 13, 2, 0, .null, false),
  (24, .invokevirtual 227, 14, 110, 4, .null, false),
  (27, .goto 4, 0, 16, 0, .null, false),
  (30, .iconst (-1), 16, 0, 0, .int (-1), true),
  (31, .ireturn, 0, 0, 0, .null, true)]
def q_X5_guard : List (List mm_N) := [q_X5_guard_0]
def q_X5_settle_0 : List mm_N := [(0, .iload_n 1, 1, 1, 0, .null, false),
  (1, .bipush 6, 2, 0, 0, .int 6, false),
  (3, .invokestatic 78, 3, 100, 2, .null, false),
  (6, .ifCond .eq 14, 4, 10, 0, .null, false),
  (9, .aload_n 0, 5, 0, 0, .null, false),
  (10, .iconst 2, 6, 0, 0, .int 2, false),
  (11, .bipush (-9), 7, 0, 0, .int (-9), false),
  (13, .iload_n 1, 8, 1, 0, .null, false),
  (14, .invokevirtual 227, 9, 110, 4, .null, false),
  (17, .goto 4, 0, 11, 0, .null, false),
  (20, .iconst (-1), 11, 0, 0, .int (-1), false),
  (21, .ireturn, 0, 0, 0, .null, true)]
def q_X5_settle : List (List mm_N) := [q_X5_settle_0]
def q_X5_matter_0 : List mm_N := [(0, .aload_n 0, 1, 0, 0, .null, false),
  (1, .getfield 21, 2, 5, 2, .null, false),
  (4, .iload_n 1, 3, 1, 0, .null, false),
  (5, .invokevirtual 141, 4, 8, 2, .null, false),
  (8, .ifCond .ne 5, 5, 7, 0, .null, false),
  (11, .iconst (-1), 6, 0, 0, .int (-1), false),
  (12, .ireturn, 0, 0, 0, .null, false),
  (13, .aload_n 0, 8, 0, 0, .null, false),
  (14, .iconst 1, 9, 0, 0, .int 1, false),
  (15, .iload_n 1, 10, 1, 0, .null, false),
  (16, .ishl, 11, 0, 0, .null, false),
  (17, .invokevirtual 231, 12, 112, 2, .null, false),
  (20, .ireturn, 0, 0, 0, .null, false)]
def q_X5_matter : List (List mm_N) := [q_X5_matter_0]
def q_X5_judge_0 : List mm_N := [(0, .aload_n 0, 1, 0, 0, .null, false),
  (1, .getfield 21, 2, 5, 2, .null, false),
  (4, .getfield 140, 3, 1, 6, .null, false),
  (7, .ifCond .ne 6, 4, 6, 0, .null, false),
  (10, .bipush (-4), 5, 0, 0, .int (-4), false),
  (12, .ireturn, 0, 0, 0, .null, false),
  (13, .bipush (-9), 7, 0, 0, .int (-9), false),
  (15, .istore_n 1, 8, 1, 0, .null, false),
  (16, .iconst (-1), 9, 0, 0, .int (-1), false),
  (17, .istore_n 2, 10, 2, 0, .null, false),
  (18, .iconst 0, 11, 0, 0, .int 0, false),
  (19, .istore_n 3, 12, 3, 0, .null, false),
  (20, .iload_n 3, 13, 3, 0, .null, true),
  (21, .bipush 10, 14, 0, 0, .int 10, false),
  (23, .if_icmp .ge 47, 15, 37, 0, .null, false),
  (26, .aload_n 0, 16, 0, 0, .null, false),
  (27, .getfield 21, 17, 5, 2, .null, false),
  (30, .iload_n 3, 18, 3, 0, .null, false),
  (31, .invokevirtual 234, 19, 18, 2, .null, false),
  (34, .istore 4, 20, 4, 0, .null, false),
  (36, .iload 4, 21, 4, 0, .null, false),
  (38, .ifCond .ne 7, 22, 24, 0, .null, false),
  (41, .iconst (-1), 23, 0, 0, .int (-1), false),
  (42, .goto 9, 0, 27, 0, .null, false),
  (45, .aload_n 0, 25, 0, 0, .null, false),
  (46, .iload 4, 26, 4, 0, .null, false),
  (48, .invokevirtual 231, 27, 112, 2, .null, false),
  (51, .istore 5, 28, 5, 0, .null, true),
  (53, .iload 5, 29, 5, 0, .null, false),
  (55, .iload_n 2, 30, 2, 0, .null, false),
  (56, .if_icmp .le 8, 31, 35, 0, .null, false),
  (59, .iload_n 3, 32, 3, 0, .null, false)]
def q_X5_judge_1 : List mm_N := [(60, .istore_n 1, 33, 1, 0, .null, false),
  (61, .iload 5, 34, 5, 0, .null, false),
  (63, .istore_n 2, 35, 2, 0, .null, false),
  (64, .iinc 3 1, 36, 3, 0, .int 1, true),
  (67, .goto (-47), 0, 12, 0, .null, false),
  (70, .aload_n 0, 38, 0, 0, .null, false),
  (71, .iload_n 2, 39, 2, 0, .null, false),
  (72, .putfield 61, 40, 5, 10, .null, false),
  (75, .iload_n 1, 41, 1, 0, .null, false),
  (76, .ireturn, 0, 0, 0, .null, false)]
def q_X5_judge : List (List mm_N) := [q_X5_judge_0, q_X5_judge_1]
def q_X5_like_0 : List mm_N := [(0, .aload_n 0, 1, 0, 0, .null, false),
  (1, .getfield 21, 2, 5, 2, .null, false),
  (4, .iload_n 1, 3, 1, 0, .null, false),
  (5, .invokevirtual 141, 4, 8, 2, .null, false),
  (8, .ifCond .eq 12, 5, 9, 0, .null, false),
  (11, .iload_n 2, 6, 2, 0, .null, false),
  (12, .bipush 32, 7, 0, 0, .int 32, false),
  (14, .invokestatic 78, 8, 100, 2, .null, false),
  (17, .ifCond .ne 5, 9, 11, 0, .null, false),
  (20, .iconst (-1), 10, 0, 0, .int (-1), true),
  (21, .ireturn, 0, 0, 0, .null, false),
  (22, .aload_n 0, 12, 0, 0, .null, false),
  (23, .aload_n 0, 13, 0, 0, .null, false),
  (24, .getfield 21, 14, 5, 2, .null, false),
  (27, .iload_n 1, 15, 1, 0, .null, false),
  (28, .iload_n 2, 16, 2, 0, .null, false),
  (29, .bipush 31, 17, 0, 0, .int 31, false),
  (31, .invokevirtual 237, 18, 22, 4, .null, false),
  (34, .invokevirtual 90, 19, 105, 2, .null, false),
  (37, .ireturn, 0, 0, 0, .null, false)]
def q_X5_like : List (List mm_N) := [q_X5_like_0]
def q_X5_verdict_0 : List mm_N := [(0, .iload_n 1, 1, 1, 0, .null, false),
  (1, .bipush 32, 2, 0, 0, .int 32, false),
  (3, .invokestatic 78, 3, 100, 2, .null, false),
  (6, .ifCond .eq 19, 4, 12, 0, .null, false),
  (9, .iload_n 2, 5, 2, 0, .null, false),
  (10, .iconst 1, 6, 0, 0, .int 1, false),
  (11, .aload_n 0, 7, 0, 0, .null, false),
  (12, .getfield 21, 8, 5, 2, .null, false),
  (15, .getfield 140, 9, 1, 6, .null, false),
  (18, .ishl, 10, 0, 0, .null, false),
  (19, .invokestatic 78, 11, 100, 2, .null, false),
  (22, .ifCond .ne 5, 12, 14, 0, .null, false),
  (25, .iconst (-1), 13, 0, 0, .int (-1), true),
  (26, .ireturn, 0, 0, 0, .null, false),
  (27, .aload_n 0, 15, 0, 0, .null, false),
  (28, .getfield 21, 16, 5, 2, .null, false),
  (31, .iload_n 1, 17, 1, 0, .null, false),
  (32, .iload_n 2, 18, 2, 0, .null, false),
  (33, .bipush 31, 19, 0, 0, .int 31, false),
  (35, .invokevirtual 240, 20, 23, 4, .null, false),
  (38, .ireturn, 0, 0, 0, .null, false)]
def q_X5_verdict : List (List mm_N) := [q_X5_verdict_0]
def q_X5_surely_0 : List mm_N := [(0, .iload_n 1, 1, 1, 0, .null, false),
  (1, .bipush 32, 2, 0, 0, .int 32, false),
  (3, .invokestatic 78, 3, 100, 2, .null, false),
  (6, .ifCond .ne 5, 4, 6, 0, .null, false),
  (9, .iconst (-1), 5, 0, 0, .int (-1), false),
  (10, .ireturn, 0, 0, 0, .null, false),
  (11, .aload_n 0, 7, 0, 0, .null, false),
  (12, .iconst 0, 8, 0, 0, .int 0, false),
  (13, .invokevirtual 168, 9, 109, 2, .null, false),
  (16, .aload_n 0, 10, 0, 0, .null, false),
  (17, .getfield 46, 11, 5, 6, .null, false),
  (20, .getfield 200, 12, 4, 1, .null, false),
  (23, .ifCond .ne 9, 13, 17, 0, .null, false),
  (26, .aload_n 0, 14, 0, 0, .null, false),
  (27, .iconst 4, 15, 0, 0, .int 4, false),
  (28, .invokevirtual 101, 16, 104, 2, .null, false),
  (31, .ireturn, 0, 0, 0, .null, false),
  (32, .iconst 0, 18, 0, 0, .int 0, false),
  (33, .istore_n 2, 19, 2, 0, .null, false),
  (34, .iconst 0, 20, 0, 0, .int 0, false),
  (35, .istore_n 3, 21, 3, 0, .null, false),
  (36, .iload_n 3, 22, 3, 0, .null, true),
  (37, .aload_n 0, 23, 0, 0, .null, false),
  (38, .getfield 46, 24, 5, 6, .null, false),
  (41, .getfield 200, 25, 4, 1, .null, false),
  (44, .if_icmp .ge 31, 26, 41, 0, .null, false),
  (47, .iload_n 2, 27, 2, 0, .null, false),
  (48, .aload_n 0, 28, 0, 0, .null, false),
  (49, .getfield 21, 29, 5, 2, .null, false),
  (52, .iload_n 1, 30, 1, 0, .null, false),
  (53, .aload_n 0, 31, 0, 0, .null, false),
  (54, .getfield 46, 32, 5, 6, .null, false)]
def q_X5_surely_1 : List mm_N := [(57, .getfield 203, 33, 4, 0, .null, false),
  (60, .iload_n 3, 34, 3, 0, .null, false),
  (61, .iaload, 35, 0, 0, .null, false),
  (62, .bipush 31, 36, 0, 0, .int 31, false),
  (64, .invokevirtual 240, 37, 23, 4, .null, false),
  (67, .iadd, 38, 0, 0, .null, false),
  (68, .istore_n 2, 39, 2, 0, .null, false),
  (69, .iinc 3 1, 40, 3, 0, .int 1, false),
  (72, .goto (-36), 0, 21, 0, .null, false),
  (75, .aload_n 0, 42, 0, 0, .null, false),
  (76, .iload_n 2, 43, 2, 0, .null, false),
  (77, .putfield 61, 44, 5, 10, .null, false),
  (80, .iload_n 2, 45, 2, 0, .null, false),
  (81, .ifCond .ne 5, 46, 48, 0, .null, false),
  (84, .iconst 0, 47, 0, 0, .int 0, false),
  (85, .ireturn, 0, 0, 0, .null, false),
  (86, .iload_n 2, 49, 2, 0, .null, false),
  (87, .aload_n 0, 50, 0, 0, .null, false),
  (88, .getfield 46, 51, 5, 6, .null, false),
  (91, .getfield 200, 52, 4, 1, .null, false),
  (94, .if_icmp .ne 7, 53, 55, 0, .null, false),
  (97, .iconst 1, 54, 0, 0, .int 1, false),
  (98, .goto 5, 0, 56, 0, .null, false),
  (101, .bipush (-9), 56, 0, 0, .int (-9), false),
  (103, .ireturn, 0, 0, 0, .null, true)]
def q_X5_surely : List (List mm_N) := [q_X5_surely_0, q_X5_surely_1]
def q_X5_freed_0 : List mm_N := [(0, .iload_n 1, 1, 1, 0, .null, false),
  (1, .iconst 5, 2, 0, 0, .int 5, false),
  (2, .invokestatic 78, 3, 100, 2, .null, false),
  (5, .ifCond .ne 5, 4, 6, 0, .null, false),
  (8, .iconst (-1), 5, 0, 0, .int (-1), false),
  (9, .ireturn, 0, 0, 0, .null, false),
  (10, .aload_n 0, 7, 0, 0, .null, false),
  (11, .iconst 0, 8, 0, 0, .int 0, false),
  (12, .invokevirtual 168, 9, 109, 2, .null, false),
  (15, .aload_n 0, 10, 0, 0, .null, false),
  (16, .getfield 46, 11, 5, 6, .null, false),
  (19, .getfield 200, 12, 4, 1, .null, false),
  (22, .ifCond .ne 9, 13, 17, 0, .null, false),
  (25, .aload_n 0, 14, 0, 0, .null, false),
  (26, .iconst 4, 15, 0, 0, .int 4, false),
  (27, .invokevirtual 101, 16, 104, 2, .null, false),
  (30, .ireturn, 0, 0, 0, .null, false),
  (31, .aload_n 0, 18, 0, 0, .null, false),
  (32, .getfield 46, 19, 5, 6, .null, false),
  (35, .invokevirtual 196, 20, 46, 1, .null, false),
  (38, .istore_n 2, 21, 2, 0, .null, false),
  (39, .bipush 31, 22, 0, 0, .int 31, false),
  (41, .iconst 1, 23, 0, 0, .int 1, false),
  (42, .iload_n 1, 24, 1, 0, .null, false),
  (43, .ishl, 25, 0, 0, .null, false),
  (44, .iconst (-1), 26, 0, 0, .int (-1), false),
  (45, .ixor, 27, 0, 0, .null, false),
  (46, .iand, 28, 0, 0, .null, false),
  (47, .istore_n 3, 29, 3, 0, .null, false),
  (48, .iconst 0, 30, 0, 0, .int 0, false),
  (49, .istore 4, 31, 4, 0, .null, false),
  (51, .iconst 0, 32, 0, 0, .int 0, false)]
def q_X5_freed_1 : List mm_N := [(52, .istore 5, 33, 5, 0, .null, false),
  (54, .iload 5, 34, 5, 0, .null, true),
  (56, .bipush 32, 35, 0, 0, .int 32, false),
  (58, .if_icmp .ge 42, 36, 54, 0, .null, false),
  (61, .aload_n 0, 37, 0, 0, .null, false),
  (62, .getfield 21, 38, 5, 2, .null, false),
  (65, .iload 5, 39, 5, 0, .null, false),
  (67, .iload_n 2, 40, 2, 0, .null, false),
  (68, .bipush 31, 41, 0, 0, .int 31, false),
  (70, .invokevirtual 240, 42, 23, 4, .null, false),
  (73, .iconst 1, 43, 0, 0, .int 1, false),
  (74, .if_icmp .ne 20, 44, 52, 0, .null, false),
  (77, .aload_n 0, 45, 0, 0, .null, false),
  (78, .getfield 21, 46, 5, 2, .null, false),
  (81, .iload 5, 47, 5, 0, .null, false),
  (83, .iload_n 2, 48, 2, 0, .null, false),
  (84, .iload_n 3, 49, 3, 0, .null, false),
  (85, .invokevirtual 240, 50, 23, 4, .null, false),
  (88, .ifCond .ne 6, 51, 52, 0, .null, false),
  (91, .iinc 4 1, 52, 4, 0, .int 1, false),
  (94, .iinc 5 1, 53, 5, 0, .int 1, true),
  (97, .goto (-43), 0, 33, 0, .null, false),
  (100, .iload 4, 55, 4, 0, .null, false),
  (102, .ireturn, 0, 0, 0, .null, false)]
def q_X5_freed : List (List mm_N) := [q_X5_freed_0, q_X5_freed_1]
def q_X5_code_0 : List mm_N := [(0, .aload_n 0, 1, 0, 0, .null, false),
  (1, .iconst 0, 2, 0, 0, .int 0, false),
  (2, .invokevirtual 168, 3, 109, 2, .null, false),
  (5, .aload_n 0, 4, 0, 0, .null, false),
  (6, .getfield 46, 5, 5, 6, .null, false),
  (9, .getfield 200, 6, 4, 1, .null, false),
  (12, .ifCond .ne 9, 7, 11, 0, .null, false),
  (15, .aload_n 0, 8, 0, 0, .null, false),
  (16, .iconst 4, 9, 0, 0, .int 4, false),
  (17, .invokevirtual 101, 10, 104, 2, .null, false),
  (20, .ireturn, 0, 0, 0, .null, false),
  (21, .aload_n 0, 12, 0, 0, .null, false),
  (22, .getfield 46, 13, 5, 6, .null, false),
  (25, .invokevirtual 196, 14, 46, 1, .null, false),
  (28, .istore_n 1, 15, 1, 0, .null, false),
  (29, .aload_n 0, 16, 0, 0, .null, false),
  (30, .getfield 21, 17, 5, 2, .null, false),
  (33, .iload_n 1, 18, 1, 0, .null, false),
  (34, .invokevirtual 243, 19, 24, 2, .null, false),
  (37, .istore_n 2, 20, 2, 0, .null, false),
  (38, .iload_n 1, 21, 1, 0, .null, false),
  (39, .invokestatic 163, 22, 208, 1, .null, false),
  (42, .istore_n 3, 23, 3, 0, .null, false),
  (43, .iload_n 1, 24, 1, 0, .null, false),
  (44, .istore 4, 25, 4, 0, .null, false),
  (46, .iconst 0, 26, 0, 0, .int 0, false),
  (47, .istore 5, 27, 5, 0, .null, false),
  (49, .iload 5, 28, 5, 0, .null, true),
  (51, .iload_n 1, 29, 1, 0, .null, false),
  (52, .if_icmp .ge 62, 30, 59, 0, .null, false),
  (55, .iload 5, 31, 5, 0, .null, false),
  (57, .iload_n 1, 32, 1, 0, .null, false)]
def q_X5_code_1 : List mm_N := [(58, .iconst (-1), 33, 0, 0, .int (-1), false),
  (59, .ixor, 34, 0, 0, .null, false),
  (60, .iand, 35, 0, 0, .null, false),
  (61, .ifCond .ne 16, 36, 42, 0, .null, false),
  (64, .iload 5, 37, 5, 0, .null, false),
  (66, .invokestatic 163, 38, 208, 1, .null, false),
  (69, .iload_n 3, 39, 3, 0, .null, false),
  (70, .if_icmp .ge 7, 40, 42, 0, .null, false),
  (73, .iconst 1, 41, 0, 0, .int 1, false),
  (74, .goto 4, 0, 43, 0, .null, false),
  (77, .iconst 0, 43, 0, 0, .int 0, true),
  (78, .istore 6, 44, 6, 0, .null, true),
  (80, .iload 6, 45, 6, 0, .null, false),
  (82, .ifCond .eq 26, 46, 57, 0, .null, false),
  (85, .aload_n 0, 47, 0, 0, .null, false),
  (86, .getfield 21, 48, 5, 2, .null, false),
  (89, .iload 5, 49, 5, 0, .null, false),
  (91, .iload_n 2, 50, 2, 0, .null, false),
  (92, .invokevirtual 246, 51, 25, 3, .null, false),
  (95, .ifCond .eq 13, 52, 57, 0, .null, false),
  (98, .iload 5, 53, 5, 0, .null, false),
  (100, .invokestatic 163, 54, 208, 1, .null, false),
  (103, .istore_n 3, 55, 3, 0, .null, false),
  (104, .iload 5, 56, 5, 0, .null, false),
  (106, .istore 4, 57, 4, 0, .null, false),
  (108, .iinc 5 1, 58, 5, 0, .int 1, true),
  (111, .goto (-62), 0, 27, 0, .null, false),
  (114, .aload_n 0, 60, 0, 0, .null, false),
  (115, .iload 4, 61, 4, 0, .null, false),
  (117, .putfield 61, 62, 5, 10, .null, false),
  (120, .iload_n 3, 63, 3, 0, .null, false),
  (121, .ireturn, 0, 0, 0, .null, false)]
def q_X5_code : List (List mm_N) := [q_X5_code_0, q_X5_code_1]
def q_X5_kinds_0 : List mm_N := [(0, .aload_n 0, 1, 0, 0, .null, false),
  (1, .getfield 21, 2, 5, 2, .null, false),
  (4, .iload_n 1, 3, 1, 0, .null, false),
  (5, .invokevirtual 141, 4, 8, 2, .null, false),
  (8, .ifCond .eq 19, 5, 13, 0, .null, false),
  (11, .iload_n 2, 6, 2, 0, .null, false),
  (12, .iconst 1, 7, 0, 0, .int 1, false),
  (13, .aload_n 0, 8, 0, 0, .null, false),
  (14, .getfield 21, 9, 5, 2, .null, false),
  (17, .getfield 140, 10, 1, 6, .null, false),
  (20, .ishl, 11, 0, 0, .null, false),
  (21, .invokestatic 78, 12, 100, 2, .null, false),
  (24, .ifCond .ne 5, 13, 15, 0, .null, false),
  (27, .iconst (-1), 14, 0, 0, .int (-1), true),
  (28, .ireturn, 0, 0, 0, .null, false),
  (29, .aload_n 0, 16, 0, 0, .null, false),
  (30, .getfield 39, 17, 5, 5, .null, false),
  (33, .aload_n 0, 18, 0, 0, .null, false),
  (34, .getfield 21, 19, 5, 2, .null, false),
  (37, .invokevirtual 190, 20, 1, 2, .null, false),
  (40, .iconst 0, 21, 0, 0, .int 0, false),
  (41, .istore_n 3, 22, 3, 0, .null, false),
  (42, .iconst 0, 23, 0, 0, .int 0, false),
  (43, .istore 4, 24, 4, 0, .null, false),
  (45, .iload 4, 25, 4, 0, .null, true),
  (47, .bipush 6, 26, 0, 0, .int 6, false),
  (49, .if_icmp .ge 38, 27, 46, 0, .null, false),
  (52, .aload_n 0, 28, 0, 0, .null, false),
  (53, .getfield 39, 29, 5, 5, .null, false),
  (56, .getfield 249, 30, 0, 0, .null, false),
  (59, .iload_n 1, 31, 1, 0, .null, false),
  (60, .iload 4, 32, 4, 0, .null, false)]
def q_X5_kinds_1 : List mm_N := [(62, .iastore, 33, 0, 0, .null, false),
  (63, .aload_n 0, 34, 0, 0, .null, false),
  (64, .getfield 39, 35, 5, 5, .null, false),
  (67, .iload_n 2, 36, 2, 0, .null, false),
  (68, .invokevirtual 250, 37, 5, 2, .null, false),
  (71, .ifCond .ne 10, 38, 44, 0, .null, false),
  (74, .iload_n 3, 39, 3, 0, .null, false),
  (75, .iconst 1, 40, 0, 0, .int 1, false),
  (76, .iload 4, 41, 4, 0, .null, false),
  (78, .ishl, 42, 0, 0, .null, false),
  (79, .ior, 43, 0, 0, .null, false),
  (80, .istore_n 3, 44, 3, 0, .null, false),
  (81, .iinc 4 1, 45, 4, 0, .int 1, true),
  (84, .goto (-39), 0, 24, 0, .null, false),
  (87, .iload_n 3, 47, 3, 0, .null, false),
  (88, .ireturn, 0, 0, 0, .null, false)]
def q_X5_kinds : List (List mm_N) := [q_X5_kinds_0, q_X5_kinds_1]
def q_X5_forged_0 : List mm_N := [(0, .iload_n 1, 1, 1, 0, .null, false),
  (1, .iconst 1, 2, 0, 0, .int 1, false),
  (2, .aload_n 0, 3, 0, 0, .null, false),
  (3, .getfield 21, 4, 5, 2, .null, false),
  (6, .getfield 140, 5, 1, 6, .null, false),
  (9, .ishl, 6, 0, 0, .null, false),
  (10, .invokestatic 78, 7, 100, 2, .null, false),
  (13, .ifCond .ne 5, 8, 10, 0, .null, false),
  (16, .iconst (-1), 9, 0, 0, .int (-1), false),
  (17, .ireturn, 0, 0, 0, .null, false),
  (18, .iconst 0, 11, 0, 0, .int 0, false),
  (19, .istore_n 2, 12, 2, 0, .null, false),
  (20, .iconst 0, 13, 0, 0, .int 0, false),
  (21, .istore_n 3, 14, 3, 0, .null, false),
  (22, .iload_n 3, 15, 3, 0, .null, true),
  (23, .aload_n 0, 16, 0, 0, .null, false),
  (24, .getfield 21, 17, 5, 2, .null, false),
  (27, .getfield 140, 18, 1, 6, .null, false),
  (30, .if_icmp .ge 61, 19, 49, 0, .null, false),
  (33, .aload_n 0, 20, 0, 0, .null, false),
  (34, .getfield 21, 21, 5, 2, .null, false),
  (37, .getfield 253, 22, 1, 4, .null, false),
  (40, .iload_n 3, 23, 3, 0, .null, false),
  (41, .iaload, 24, 0, 0, .null, false),
  (42, .ifCond .eq 43, 25, 47, 0, .null, false),
  (45, .aload_n 0, 26, 0, 0, .null, false),
  (46, .getfield 39, 27, 5, 5, .null, false),
  (49, .aload_n 0, 28, 0, 0, .null, false),
  (50, .getfield 21, 29, 5, 2, .null, false),
  (53, .invokevirtual 190, 30, 1, 2, .null, false),
  (56, .aload_n 0, 31, 0, 0, .null, false),
  (57, .getfield 39, 32, 5, 5, .null, false)]
def q_X5_forged_1 : List mm_N := [(60, .iload_n 3, 33, 3, 0, .null, false),
  (61, .invokevirtual 256, 34, 2, 2, .null, false),
  (64, .iload_n 2, 35, 2, 0, .null, false),
  (65, .aload_n 0, 36, 0, 0, .null, false),
  (66, .getfield 39, 37, 5, 5, .null, false),
  (69, .iload_n 1, 38, 1, 0, .null, false),
  (70, .invokevirtual 250, 39, 5, 2, .null, false),
  (73, .ifCond .ne 9, 40, 44, 0, .null, false),
  (76, .iconst 1, 41, 0, 0, .int 1, false),
  (77, .iload_n 3, 42, 3, 0, .null, false),
  (78, .ishl, 43, 0, 0, .null, false),
  (79, .goto 4, 0, 45, 0, .null, false),
  (82, .iconst 0, 45, 0, 0, .int 0, false),
  (83, .ior, 46, 0, 0, .null, true),
  (84, .istore_n 2, 47, 2, 0, .null, false),
  (85, .iinc 3 1, 48, 3, 0, .int 1, true),
  (88, .goto (-66), 0, 14, 0, .null, false),
  (91, .iload_n 2, 50, 2, 0, .null, false),
  (92, .ireturn, 0, 0, 0, .null, false)]
def q_X5_forged : List (List mm_N) := [q_X5_forged_0, q_X5_forged_1]
def q_X5_torn_0 : List mm_N := [(0, .iload_n 1, 1, 1, 0, .null, false),
  (1, .iconst 1, 2, 0, 0, .int 1, false),
  (2, .aload_n 0, 3, 0, 0, .null, false),
  (3, .getfield 21, 4, 5, 2, .null, false),
  (6, .getfield 140, 5, 1, 6, .null, false),
  (9, .ishl, 6, 0, 0, .null, false),
  (10, .invokestatic 78, 7, 100, 2, .null, false),
  (13, .ifCond .eq 19, 8, 16, 0, .null, false),
  (16, .iload_n 2, 9, 2, 0, .null, false),
  (17, .iconst 1, 10, 0, 0, .int 1, false),
  (18, .aload_n 0, 11, 0, 0, .null, false),
  (19, .getfield 21, 12, 5, 2, .null, false),
  (22, .getfield 140, 13, 1, 6, .null, false),
  (25, .ishl, 14, 0, 0, .null, false),
  (26, .invokestatic 78, 15, 100, 2, .null, false),
  (29, .ifCond .ne 5, 16, 18, 0, .null, false),
  (32, .iconst (-1), 17, 0, 0, .int (-1), true),
  (33, .ireturn, 0, 0, 0, .null, false),
  (34, .aload_n 0, 19, 0, 0, .null, false),
  (35, .iconst 0, 20, 0, 0, .int 0, false),
  (36, .invokevirtual 168, 21, 109, 2, .null, false),
  (39, .iconst 0, 22, 0, 0, .int 0, false),
  (40, .istore_n 3, 23, 3, 0, .null, false),
  (41, .bipush (-9), 24, 0, 0, .int (-9), false),
  (43, .istore 4, 25, 4, 0, .null, false),
  (45, .iconst 0, 26, 0, 0, .int 0, false),
  (46, .istore 5, 27, 5, 0, .null, false),
  (48, .iload 5, 28, 5, 0, .null, true),
  (50, .aload_n 0, 29, 0, 0, .null, false),
  (51, .getfield 46, 30, 5, 6, .null, false),
  (54, .getfield 200, 31, 4, 1, .null, false),
  (57, .if_icmp .ge 50, 32, 55, 0, .null, false)]
def q_X5_torn_1 : List mm_N := [(60, .aload_n 0, 33, 0, 0, .null, false),
  (61, .getfield 46, 34, 5, 6, .null, false),
  (64, .getfield 203, 35, 4, 0, .null, false),
  (67, .iload 5, 36, 5, 0, .null, false),
  (69, .iaload, 37, 0, 0, .null, false),
  (70, .iload_n 2, 38, 2, 0, .null, false),
  (71, .ixor, 39, 0, 0, .null, false),
  (72, .iload_n 1, 40, 1, 0, .null, false),
  (73, .iand, 41, 0, 0, .null, false),
  (74, .ifCond .ne 27, 42, 53, 0, .null, false),
  (77, .iload_n 3, 43, 3, 0, .null, false),
  (78, .ifCond .ne 16, 44, 50, 0, .null, false),
  (81, .aload_n 0, 45, 0, 0, .null, false),
  (82, .getfield 46, 46, 5, 6, .null, false),
  (85, .getfield 203, 47, 4, 0, .null, false),
  (88, .iload 5, 48, 5, 0, .null, false),
  (90, .iaload, 49, 0, 0, .null, false),
  (91, .goto 5, 0, 51, 0, .null, false),
  (94, .iload 4, 51, 4, 0, .null, false),
  (96, .istore 4, 52, 4, 0, .null, true),
  (98, .iinc 3 1, 53, 3, 0, .int 1, false),
  (101, .iinc 5 1, 54, 5, 0, .int 1, true),
  (104, .goto (-56), 0, 27, 0, .null, false),
  (107, .aload_n 0, 56, 0, 0, .null, false),
  (108, .iload 4, 57, 4, 0, .null, false),
  (110, .putfield 61, 58, 5, 10, .null, false),
  (113, .iload_n 3, 59, 3, 0, .null, false),
  (114, .ireturn, 0, 0, 0, .null, false)]
def q_X5_torn : List (List mm_N) := [q_X5_torn_0, q_X5_torn_1]
def q_X5_lots_0 : List mm_N := [(0, .iload_n 1, 1, 1, 0, .null, false),
  (1, .iconst 1, 2, 0, 0, .int 1, false),
  (2, .if_icmp .lt 21, 3, 12, 0, .null, false),
  (5, .iload_n 1, 4, 1, 0, .null, false),
  (6, .bipush 9, 5, 0, 0, .int 9, false),
  (8, .if_icmp .gt 15, 6, 12, 0, .null, false),
  (11, .iload_n 2, 7, 2, 0, .null, false),
  (12, .iconst 1, 8, 0, 0, .int 1, false),
  (13, .if_icmp .lt 10, 9, 12, 0, .null, false),
  (16, .iload_n 2, 10, 2, 0, .null, false),
  (17, .ldc_w 259, 11, 0, 0, .int 2147483647, false),
  (20, .if_icmp .lt 5, 12, 14, 0, .null, false),
  (23, .iconst (-1), 13, 0, 0, .int (-1), true),
  (24, .ireturn, 0, 0, 0, .null, false),
  (25, .aload_n 0, 15, 0, 0, .null, false),
  (26, .getfield 21, 16, 5, 2, .null, false),
  (29, .getfield 140, 17, 1, 6, .null, false),
  (32, .iload_n 1, 18, 1, 0, .null, false),
  (33, .iadd, 19, 0, 0, .null, false),
  (34, .bipush 9, 20, 0, 0, .int 9, false),
  (36, .if_icmp .le 6, 21, 23, 0, .null, false),
  (39, .bipush (-2), 22, 0, 0, .int (-2), false),
  (41, .ireturn, 0, 0, 0, .null, false),
  (42, .iload_n 2, 24, 2, 0, .null, false),
  (43, .istore_n 3, 25, 3, 0, .null, false),
  (44, .iconst 0, 26, 0, 0, .int 0, false),
  (45, .istore 4, 27, 4, 0, .null, false),
  (47, .iload 4, 28, 4, 0, .null, true),
  (49, .iload_n 1, 29, 1, 0, .null, false),
  (50, .if_icmp .ge 26, 30, 43, 0, .null, false),
  (53, .ldc2_w 260, 31, 0, 0, .long 48271, false),
  (56, .iload_n 3, 32, 3, 0, .null, false)]
def q_X5_lots_1 : List mm_N := [(57, .i2l, 33, 0, 0, .null, false),
  (58, .lmul, 34, 0, 0, .null, false),
  (59, .ldc2_w 262, 35, 0, 0, .long 2147483647, false),
  (62, .lrem, 36, 0, 0, .null, false),
  (63, .l2i, 37, 0, 0, .null, false),
  (64, .istore_n 3, 38, 3, 0, .null, false),
  (65, .aload_n 0, 39, 0, 0, .null, false),
  (66, .iload_n 3, 40, 3, 0, .null, false),
  (67, .invokevirtual 264, 41, 113, 2, .null, false),
  (70, .iinc 4 1, 42, 4, 0, .int 1, false),
  (73, .goto (-26), 0, 27, 0, .null, false),
  (76, .aload_n 0, 44, 0, 0, .null, false),
  (77, .getfield 21, 45, 5, 2, .null, false),
  (80, .getfield 140, 46, 1, 6, .null, false),
  (83, .ireturn, 0, 0, 0, .null, false)]
def q_X5_lots : List (List mm_N) := [q_X5_lots_0, q_X5_lots_1]
def q_X5_asked_0 : List mm_N := [(0, .aload_n 0, 1, 0, 0, .null, false),
  (1, .getfield 61, 2, 5, 10, .null, false),
  (4, .ireturn, 0, 0, 0, .null, false)]
def q_X5_asked : List (List mm_N) := [q_X5_asked_0]
def q_X5_upper_0 : List mm_N := [(0, .aload_n 0, 1, 0, 0, .null, false),
  (1, .getfield 64, 2, 5, 11, .null, false),
  (4, .lreturn, 0, 0, 0, .null, false)]
def q_X5_upper : List (List mm_N) := [q_X5_upper_0]
def q_X5_lower_0 : List mm_N := [(0, .aload_n 0, 1, 0, 0, .null, false),
  (1, .getfield 68, 2, 5, 12, .null, false),
  (4, .lreturn, 0, 0, 0, .null, false)]
def q_X5_lower : List (List mm_N) := [q_X5_lower_0]
def q_X5_count_0 : List mm_N := [(0, .iload_n 1, 1, 1, 0, .null, false),
  (1, .bipush 8, 2, 0, 0, .int 8, false),
  (3, .invokestatic 78, 3, 100, 2, .null, false),
  (6, .ifCond .eq 11, 4, 8, 0, .null, false),
  (9, .aload_n 0, 5, 0, 0, .null, false),
  (10, .iload_n 1, 6, 1, 0, .null, false),
  (11, .invokevirtual 267, 7, 114, 2, .null, false),
  (14, .goto 4, 0, 9, 0, .null, false),
  (17, .iconst (-1), 9, 0, 0, .int (-1), false),
  (18, .ireturn, 0, 0, 0, .null, true)]
def q_X5_count : List (List mm_N) := [q_X5_count_0]
def q_X5_finding_0 : List mm_N := [(0, .aload_n 0, 1, 0, 0, .null, false),
  (1, .getfield 57, 2, 5, 9, .null, false),
  (4, .ireturn, 0, 0, 0, .null, false)]
def q_X5_finding : List (List mm_N) := [q_X5_finding_0]
def q_X5_findings_0 : List mm_N := [(0, .iload_n 1, 1, 1, 0, .null, false),
  (1, .iconst 1, 2, 0, 0, .int 1, false),
  (2, .if_icmp .lt 8, 3, 6, 0, .null, false),
  (5, .iload_n 1, 4, 1, 0, .null, false),
  (6, .iconst 5, 5, 0, 0, .int 5, false),
  (7, .if_icmp .le 7, 6, 8, 0, .null, false),
  (10, .iconst (-1), 7, 0, 0, .int (-1), true),
  (11, .goto 9, 0, 12, 0, .null, false),
  (14, .aload_n 0, 9, 0, 0, .null, false),
  (15, .getfield 54, 10, 5, 8, .null, false),
  (18, .iload_n 1, 11, 1, 0, .null, false),
  (19, .iaload, 12, 0, 0, .null, false),
  (20, .ireturn, 0, 0, 0, .null, true)]
def q_X5_findings : List (List mm_N) := [q_X5_findings_0]
def q_X5_digest_0 : List mm_N := [(0, .ldc2_w 270, 1, 0, 0, .long 17, false),
  (3, .lstore_n 1, 2, 1, 0, .null, false),
  (4, .iconst 0, 3, 0, 0, .int 0, false),
  (5, .istore_n 3, 4, 3, 0, .null, false),
  (6, .iload_n 3, 5, 3, 0, .null, true),
  (7, .bipush 8, 6, 0, 0, .int 8, false),
  (9, .if_icmp .ge 22, 7, 18, 0, .null, false),
  (12, .ldc2_w 272, 8, 0, 0, .long 31, false),
  (15, .lload_n 1, 9, 1, 0, .null, false),
  (16, .lmul, 10, 0, 0, .null, false),
  (17, .aload_n 0, 11, 0, 0, .null, false),
  (18, .iload_n 3, 12, 3, 0, .null, false),
  (19, .invokevirtual 267, 13, 114, 2, .null, false),
  (22, .i2l, 14, 0, 0, .null, false),
  (23, .ladd, 15, 0, 0, .null, false),
  (24, .lstore_n 1, 16, 1, 0, .null, false),
  (25, .iinc 3 1, 17, 3, 0, .int 1, false),
  (28, .goto (-22), 0, 4, 0, .null, false),
  (31, .iconst 0, 19, 0, 0, .int 0, false),
  (32, .istore_n 3, 20, 3, 0, .null, false),
  (33, .iload_n 3, 21, 3, 0, .null, true),
  (34, .aload_n 0, 22, 0, 0, .null, false),
  (35, .getfield 21, 23, 5, 2, .null, false),
  (38, .getfield 140, 24, 1, 6, .null, false),
  (41, .if_icmp .ge 43, 25, 45, 0, .null, false),
  (44, .iconst 0, 26, 0, 0, .int 0, false),
  (45, .istore 4, 27, 4, 0, .null, false),
  (47, .iload 4, 28, 4, 0, .null, true),
  (49, .bipush 7, 29, 0, 0, .int 7, false),
  (51, .if_icmp .ge 27, 30, 43, 0, .null, false),
  (54, .ldc2_w 272, 31, 0, 0, .long 31, false),
  (57, .lload_n 1, 32, 1, 0, .null, false)]
def q_X5_digest_1 : List mm_N := [(58, .lmul, 33, 0, 0, .null, false),
  (59, .aload_n 0, 34, 0, 0, .null, false),
  (60, .getfield 21, 35, 5, 2, .null, false),
  (63, .iload_n 3, 36, 3, 0, .null, false),
  (64, .iload 4, 37, 4, 0, .null, false),
  (66, .invokevirtual 145, 38, 15, 3, .null, false),
  (69, .i2l, 39, 0, 0, .null, false),
  (70, .ladd, 40, 0, 0, .null, false),
  (71, .lstore_n 1, 41, 1, 0, .null, false),
  (72, .iinc 4 1, 42, 4, 0, .int 1, false),
  (75, .goto (-28), 0, 27, 0, .null, false),
  (78, .iinc 3 1, 44, 3, 0, .int 1, false),
  (81, .goto (-48), 0, 20, 0, .null, false),
  (84, .iconst 0, 46, 0, 0, .int 0, false),
  (85, .istore_n 3, 47, 3, 0, .null, false),
  (86, .iload_n 3, 48, 3, 0, .null, true),
  (87, .iconst 3, 49, 0, 0, .int 3, false),
  (88, .if_icmp .ge 38, 50, 69, 0, .null, false),
  (91, .ldc2_w 272, 51, 0, 0, .long 31, false),
  (94, .lload_n 1, 52, 1, 0, .null, false),
  (95, .lmul, 53, 0, 0, .null, false),
  (96, .aload_n 0, 54, 0, 0, .null, false),
  (97, .iload_n 3, 55, 3, 0, .null, false),
  (98, .invokevirtual 187, 56, 108, 2, .null, false),
  (101, .ifCond .eq 15, 57, 63, 0, .null, false),
  (104, .aload_n 0, 58, 0, 0, .null, false),
  (105, .getfield 25, 59, 5, 3, .null, false),
  (108, .iload_n 3, 60, 3, 0, .null, false),
  (109, .aaload, 61, 0, 0, .null, false),
  (110, .getfield 140, 62, 1, 6, .null, false),
  (113, .goto 4, 0, 64, 0, .null, false),
  (116, .iconst (-1), 64, 0, 0, .int (-1), false)]
def q_X5_digest_2 : List mm_N := [(117, .i2l, 65, 0, 0, .null, true),
  (118, .ladd, 66, 0, 0, .null, false),
  (119, .lstore_n 1, 67, 1, 0, .null, false),
  (120, .iinc 3 1, 68, 3, 0, .int 1, false),
  (123, .goto (-37), 0, 47, 0, .null, false),
  (126, .iconst 0, 70, 0, 0, .int 0, false),
  (127, .istore_n 3, 71, 3, 0, .null, false),
  (128, .iload_n 3, 72, 3, 0, .null, true),
  (129, .bipush 6, 73, 0, 0, .int 6, false),
  (131, .if_icmp .ge 20, 74, 83, 0, .null, false),
  (134, .aload_n 0, 75, 0, 0, .null, false),
  (135, .getfield 11, 76, 5, 0, .null, false),
  (138, .iload_n 3, 77, 3, 0, .null, false),
  (139, .aaload, 78, 0, 0, .null, false),
  (140, .lload_n 1, 79, 1, 0, .null, false),
  (141, .invokevirtual 274, 80, 43, 2, .null, false),
  (144, .lstore_n 1, 81, 1, 0, .null, false),
  (145, .iinc 3 1, 82, 3, 0, .int 1, false),
  (148, .goto (-20), 0, 71, 0, .null, false),
  (151, .iconst 0, 84, 0, 0, .int 0, false),
  (152, .istore_n 3, 85, 3, 0, .null, false),
  (153, .iload_n 3, 86, 3, 0, .null, true),
  (154, .iconst 4, 87, 0, 0, .int 4, false),
  (155, .if_icmp .ge 20, 88, 97, 0, .null, false),
  (158, .aload_n 0, 89, 0, 0, .null, false),
  (159, .getfield 15, 90, 5, 1, .null, false),
  (162, .iload_n 3, 91, 3, 0, .null, false),
  (163, .aaload, 92, 0, 0, .null, false),
  (164, .lload_n 1, 93, 1, 0, .null, false),
  (165, .invokevirtual 274, 94, 43, 2, .null, false),
  (168, .lstore_n 1, 95, 1, 0, .null, false),
  (169, .iinc 3 1, 96, 3, 0, .int 1, false)]
def q_X5_digest_3 : List mm_N := [(172, .goto (-19), 0, 85, 0, .null, false),
  (175, .lload_n 1, 98, 1, 0, .null, false),
  (176, .lreturn, 0, 0, 0, .null, false)]
def q_X5_digest : List (List mm_N) := [q_X5_digest_0, q_X5_digest_1, q_X5_digest_2, q_X5_digest_3]
def q_X5_within_0 : List mm_N := [(0, .iload_n 0, 1, 0, 0, .null, false),
  (1, .ifCond .lt 12, 2, 7, 0, .null, false),
  (4, .iload_n 0, 3, 0, 0, .null, false),
  (5, .iload_n 1, 4, 1, 0, .null, false),
  (6, .if_icmp .ge 7, 5, 7, 0, .null, false),
  (9, .iconst 1, 6, 0, 0, .int 1, false),
  (10, .goto 4, 0, 8, 0, .null, false),
  (13, .iconst 0, 8, 0, 0, .int 0, true),
  (14, .ireturn, 0, 0, 0, .null, true)]
def q_X5_within : List (List mm_N) := [q_X5_within_0]
def q_X5_holds_0 : List mm_N := [(0, .iload_n 0, 1, 0, 0, .null, false),
  (1, .iload_n 1, 2, 1, 0, .null, false),
  (2, .ishr, 3, 0, 0, .null, false),
  (3, .iconst 1, 4, 0, 0, .int 1, false),
  (4, .iand, 5, 0, 0, .null, false),
  (5, .iconst 1, 6, 0, 0, .int 1, false),
  (6, .if_icmp .ne 7, 7, 9, 0, .null, false),
  (9, .iconst 1, 8, 0, 0, .int 1, false),
  (10, .goto 4, 0, 10, 0, .null, false),
  (13, .iconst 0, 10, 0, 0, .int 0, false),
  (14, .ireturn, 0, 0, 0, .null, true)]
def q_X5_holds : List (List mm_N) := [q_X5_holds_0]
def q_X5_isOfKind_0 : List mm_N := [(0, .iload_n 0, 1, 0, 0, .null, false),
  (1, .iload_n 1, 2, 1, 0, .null, false),
  (2, .if_icmp .eq 23, 3, 15, 0, .null, false),
  (5, .iload_n 0, 4, 0, 0, .null, false),
  (6, .iconst 4, 5, 0, 0, .int 4, false),
  (7, .if_icmp .ne 8, 6, 9, 0, .null, false),
  (10, .iload_n 1, 7, 1, 0, .null, false),
  (11, .iconst 1, 8, 0, 0, .int 1, false),
  (12, .if_icmp .eq 13, 9, 15, 0, .null, false),
  (15, .iload_n 0, 10, 0, 0, .null, true),
  (16, .iconst 5, 11, 0, 0, .int 5, false),
  (17, .if_icmp .ne 12, 12, 17, 0, .null, false),
  (20, .iload_n 1, 13, 1, 0, .null, false),
  (21, .iconst 2, 14, 0, 0, .int 2, false),
  (22, .if_icmp .ne 7, 15, 17, 0, .null, false),
  (25, .iconst 1, 16, 0, 0, .int 1, true),
  (26, .goto 4, 0, 18, 0, .null, false),
  (29, .iconst 0, 18, 0, 0, .int 0, true),
  (30, .ireturn, 0, 0, 0, .null, true)]
def q_X5_isOfKind : List (List mm_N) := [q_X5_isOfKind_0]
def q_X5_greatestDivisor_0 : List mm_N := [(0, .iload_n 1, 1, 1, 0, .null, false),
  (1, .istore_n 2, 2, 2, 0, .null, false),
  (2, .iload_n 2, 3, 2, 0, .null, true),
  (3, .iconst 1, 4, 0, 0, .int 1, false),
  (4, .if_icmp .le 23, 5, 17, 0, .null, false),
  (7, .iload_n 0, 6, 0, 0, .null, false),
  (8, .iload_n 2, 7, 2, 0, .null, false),
  (9, .irem, 8, 0, 0, .null, false),
  (10, .ifCond .ne 11, 9, 15, 0, .null, false),
  (13, .iload_n 1, 10, 1, 0, .null, false),
  (14, .iload_n 2, 11, 2, 0, .null, false),
  (15, .irem, 12, 0, 0, .null, false),
  (16, .ifCond .ne 5, 13, 15, 0, .null, false),
  (19, .iload_n 2, 14, 2, 0, .null, false),
  (20, .ireturn, 0, 0, 0, .null, false),
  (21, .iinc 2 (-1), 16, 2, 0, .int (-1), true),
  (24, .goto (-22), 0, 2, 0, .null, false),
  (27, .iconst 1, 18, 0, 0, .int 1, false),
  (28, .ireturn, 0, 0, 0, .null, false)]
def q_X5_greatestDivisor : List (List mm_N) := [q_X5_greatestDivisor_0]
def q_X5_refuse_0 : List mm_N := [(0, .aload_n 0, 1, 0, 0, .null, false),
  (1, .iload_n 1, 2, 1, 0, .null, false),
  (2, .putfield 57, 3, 5, 9, .null, false),
  (5, .aload_n 0, 4, 0, 0, .null, false),
  (6, .getfield 54, 5, 5, 8, .null, false),
  (9, .iload_n 1, 6, 1, 0, .null, false),
  (10, .dup2, 7, 0, 0, .null, false),
  (11, .iaload, 8, 0, 0, .null, false),
  (12, .iconst 1, 9, 0, 0, .int 1, false),
  (13, .iadd, 10, 0, 0, .null, false),
  (14, .iastore, 11, 0, 0, .null, false),
  (15, .bipush (-3), 12, 0, 0, .int (-3), false),
  (17, .ireturn, 0, 0, 0, .null, false)]
def q_X5_refuse : List (List mm_N) := [q_X5_refuse_0]
def q_X5_tell_0 : List mm_N := [(0, .aload_n 0, 1, 0, 0, .null, false),
  (1, .iload_n 1, 2, 1, 0, .null, false),
  (2, .putfield 61, 3, 5, 10, .null, false),
  (5, .iconst 1, 4, 0, 0, .int 1, false),
  (6, .ireturn, 0, 0, 0, .null, false)]
def q_X5_tell : List (List mm_N) := [q_X5_tell_0]
def q_X5_renewed_0 : List mm_N := [(0, .iload_n 2, 1, 2, 0, .null, false),
  (1, .aload_n 1, 2, 1, 0, .null, false),
  (2, .arraylength, 3, 0, 0, .null, false),
  (3, .invokestatic 78, 4, 100, 2, .null, false),
  (6, .ifCond .eq 14, 5, 12, 0, .null, false),
  (9, .iload_n 3, 6, 3, 0, .null, false),
  (10, .aload_n 1, 7, 1, 0, .null, false),
  (11, .iload_n 2, 8, 2, 0, .null, false),
  (12, .aaload, 9, 0, 0, .null, false),
  (13, .getfield 110, 10, 3, 0, .null, false),
  (16, .arraylength, 11, 0, 0, .null, false),
  (17, .if_icmp .le 5, 12, 14, 0, .null, false),
  (20, .iconst (-1), 13, 0, 0, .int (-1), true),
  (21, .ireturn, 0, 0, 0, .null, false),
  (22, .iload_n 3, 15, 3, 0, .null, false),
  (23, .ifCond .ge 9, 16, 20, 0, .null, false),
  (26, .aload_n 0, 17, 0, 0, .null, false),
  (27, .iconst 5, 18, 0, 0, .int 5, false),
  (28, .invokevirtual 101, 19, 104, 2, .null, false),
  (31, .ireturn, 0, 0, 0, .null, false),
  (32, .aload_n 1, 21, 1, 0, .null, false),
  (33, .iload_n 2, 22, 2, 0, .null, false),
  (34, .aaload, 23, 0, 0, .null, false),
  (35, .iload_n 3, 24, 3, 0, .null, false),
  (36, .iload 4, 25, 4, 0, .null, false),
  (38, .invokevirtual 278, 26, 40, 3, .null, false),
  (41, .iload_n 3, 27, 3, 0, .null, false),
  (42, .ireturn, 0, 0, 0, .null, false)]
def q_X5_renewed : List (List mm_N) := [q_X5_renewed_0]
def q_X5_refusalOfPlace_0 : List mm_N := [(0, .aload_n 1, 1, 1, 0, .null, false),
  (1, .invokevirtual 97, 2, 35, 1, .null, false),
  (4, .ifCond .eq 9, 3, 7, 0, .null, false),
  (7, .aload_n 0, 4, 0, 0, .null, false),
  (8, .iconst 1, 5, 0, 0, .int 1, false),
  (9, .invokevirtual 101, 6, 104, 2, .null, false),
  (12, .ireturn, 0, 0, 0, .null, false),
  (13, .aload_n 1, 8, 1, 0, .null, false),
  (14, .iload_n 2, 9, 2, 0, .null, false),
  (15, .invokevirtual 282, 10, 36, 2, .null, false),
  (18, .ifCond .eq 7, 11, 13, 0, .null, false),
  (21, .iconst 0, 12, 0, 0, .int 0, false),
  (22, .goto 8, 0, 16, 0, .null, false),
  (25, .aload_n 0, 14, 0, 0, .null, false),
  (26, .iconst 2, 15, 0, 0, .int 2, false),
  (27, .invokevirtual 101, 16, 104, 2, .null, false),
  (30, .ireturn, 0, 0, 0, .null, true)]
def q_X5_refusalOfPlace : List (List mm_N) := [q_X5_refusalOfPlace_0]
def q_X5_isKept_0 : List mm_N := [(0, .aload_n 0, 1, 0, 0, .null, false),
  (1, .getfield 25, 2, 5, 3, .null, false),
  (4, .iload_n 1, 3, 1, 0, .null, false),
  (5, .aaload, 4, 0, 0, .null, false),
  (6, .getfield 140, 5, 1, 6, .null, false),
  (9, .ifCond .le 7, 6, 8, 0, .null, false),
  (12, .iconst 1, 7, 0, 0, .int 1, false),
  (13, .goto 4, 0, 9, 0, .null, false),
  (16, .iconst 0, 9, 0, 0, .int 0, false),
  (17, .ireturn, 0, 0, 0, .null, true)]
def q_X5_isKept : List (List mm_N) := [q_X5_isKept_0]
def q_X5_findWays_0 : List mm_N := [(0, .aload_n 0, 1, 0, 0, .null, false),
  (1, .getfield 39, 2, 5, 5, .null, false),
  (4, .aload_n 0, 3, 0, 0, .null, false),
  (5, .getfield 21, 4, 5, 2, .null, false),
  (8, .invokevirtual 190, 5, 1, 2, .null, false),
  (11, .aload_n 0, 6, 0, 0, .null, false),
  (12, .getfield 39, 7, 5, 5, .null, false),
  (15, .iload_n 1, 8, 1, 0, .null, false),
  (16, .putfield 283, 9, 0, 6, .null, false),
  (19, .aload_n 0, 10, 0, 0, .null, false),
  (20, .getfield 46, 11, 5, 6, .null, false),
  (23, .aload_n 0, 12, 0, 0, .null, false),
  (24, .getfield 39, 13, 5, 5, .null, false),
  (27, .invokevirtual 286, 14, 45, 2, .null, false),
  (30, .return_, 0, 0, 0, .null, false)]
def q_X5_findWays : List (List mm_N) := [q_X5_findWays_0]
def q_X5_fewest_0 : List mm_N := [(0, .aload_n 0, 1, 0, 0, .null, false),
  (1, .getfield 39, 2, 5, 5, .null, false),
  (4, .aload_n 0, 3, 0, 0, .null, false),
  (5, .getfield 21, 4, 5, 2, .null, false),
  (8, .invokevirtual 190, 5, 1, 2, .null, false),
  (11, .iconst 0, 6, 0, 0, .int 0, false),
  (12, .istore 4, 7, 4, 0, .null, false),
  (14, .iload 4, 8, 4, 0, .null, true),
  (16, .iconst 3, 9, 0, 0, .int 3, false),
  (17, .if_icmp .gt 76, 10, 50, 0, .null, false),
  (20, .aload_n 0, 11, 0, 0, .null, false),
  (21, .iload_n 1, 12, 1, 0, .null, false),
  (22, .iload_n 2, 13, 2, 0, .null, false),
  (23, .iload 4, 14, 4, 0, .null, false),
  (25, .iconst 0, 15, 0, 0, .int 0, false),
  (26, .invokevirtual 290, 16, 111, 5, .null, false),
  (29, .ifCond .eq 58, 17, 48, 0, .null, false),
  (32, .aload_n 0, 18, 0, 0, .null, false),
  (33, .getfield 11, 19, 5, 0, .null, false),
  (36, .iload_n 3, 20, 3, 0, .null, false),
  (37, .aaload, 21, 0, 0, .null, false),
  (38, .iload 4, 22, 4, 0, .null, false),
  (40, .iconst 0, 23, 0, 0, .int 0, false),
  (41, .invokevirtual 278, 24, 40, 3, .null, false),
  (44, .iconst 0, 25, 0, 0, .int 0, false),
  (45, .istore 5, 26, 5, 0, .null, false),
  (47, .iload 5, 27, 5, 0, .null, true),
  (49, .iload 4, 28, 4, 0, .null, false),
  (51, .if_icmp .ge 33, 29, 46, 0, .null, false),
  (54, .aload_n 0, 30, 0, 0, .null, false),
  (55, .getfield 11, 31, 5, 0, .null, false),
  (58, .iload_n 3, 32, 3, 0, .null, false)]
def q_X5_fewest_1 : List mm_N := [(59, .aaload, 33, 0, 0, .null, false),
  (60, .getfield 110, 34, 3, 0, .null, false),
  (63, .iload 5, 35, 5, 0, .null, false),
  (65, .aload_n 0, 36, 0, 0, .null, false),
  (66, .getfield 50, 37, 5, 7, .null, false),
  (69, .iload 4, 38, 4, 0, .null, false),
  (71, .iconst 1, 39, 0, 0, .int 1, false),
  (72, .isub, 40, 0, 0, .null, false),
  (73, .iload 5, 41, 5, 0, .null, false),
  (75, .isub, 42, 0, 0, .null, false),
  (76, .iaload, 43, 0, 0, .null, false),
  (77, .iastore, 44, 0, 0, .null, false),
  (78, .iinc 5 1, 45, 5, 0, .int 1, false),
  (81, .goto (-34), 0, 26, 0, .null, false),
  (84, .iload 4, 47, 4, 0, .null, false),
  (86, .ireturn, 0, 0, 0, .null, false),
  (87, .iinc 4 1, 49, 4, 0, .int 1, false),
  (90, .goto (-76), 0, 7, 0, .null, false),
  (93, .bipush (-9), 51, 0, 0, .int (-9), false),
  (95, .ireturn, 0, 0, 0, .null, false)]
def q_X5_fewest : List (List mm_N) := [q_X5_fewest_0, q_X5_fewest_1]
def q_X5_canReach_0 : List mm_N := [(0, .iload_n 3, 1, 3, 0, .null, false),
  (1, .ifCond .le 8, 2, 5, 0, .null, false),
  (4, .iload_n 3, 3, 3, 0, .null, false),
  (5, .iconst 3, 4, 0, 0, .int 3, false),
  (6, .if_icmp .le 24, 5, 16, 0, .null, false),
  (9, .aload_n 0, 6, 0, 0, .null, true),
  (10, .getfield 46, 7, 5, 6, .null, false),
  (13, .aload_n 0, 8, 0, 0, .null, false),
  (14, .getfield 39, 9, 5, 5, .null, false),
  (17, .invokevirtual 286, 10, 45, 2, .null, false),
  (20, .aload_n 0, 11, 0, 0, .null, false),
  (21, .getfield 46, 12, 5, 6, .null, false),
  (24, .iload_n 1, 13, 1, 0, .null, false),
  (25, .iload_n 2, 14, 2, 0, .null, false),
  (26, .invokevirtual 294, 15, 50, 3, .null, false),
  (29, .ireturn, 0, 0, 0, .null, false),
  (30, .iload 4, 17, 4, 0, .null, false),
  (32, .istore 5, 18, 5, 0, .null, false),
  (34, .iload 5, 19, 5, 0, .null, true),
  (36, .aload_n 0, 20, 0, 0, .null, false),
  (37, .getfield 39, 21, 5, 5, .null, false),
  (40, .getfield 297, 22, 0, 7, .null, false),
  (43, .if_icmp .ge 79, 23, 68, 0, .null, false),
  (46, .aload_n 0, 24, 0, 0, .null, false),
  (47, .getfield 39, 25, 5, 5, .null, false),
  (50, .iload 5, 26, 5, 0, .null, false),
  (52, .invokevirtual 298, 27, 3, 2, .null, false),
  (55, .ifCond .eq 61, 28, 66, 0, .null, false),
  (58, .aload_n 0, 29, 0, 0, .null, false),
  (59, .getfield 39, 30, 5, 5, .null, false),
  (62, .getfield 301, 31, 0, 5, .null, false),
  (65, .iload 5, 32, 5, 0, .null, false)]
def q_X5_canReach_1 : List mm_N := [(67, .dup2, 33, 0, 0, .null, false),
  (68, .iaload, 34, 0, 0, .null, false),
  (69, .iconst 1, 35, 0, 0, .int 1, false),
  (70, .iadd, 36, 0, 0, .null, false),
  (71, .iastore, 37, 0, 0, .null, false),
  (72, .aload_n 0, 38, 0, 0, .null, false),
  (73, .iload_n 1, 39, 1, 0, .null, false),
  (74, .iload_n 2, 40, 2, 0, .null, false),
  (75, .iload_n 3, 41, 3, 0, .null, false),
  (76, .iconst 1, 42, 0, 0, .int 1, false),
  (77, .isub, 43, 0, 0, .null, false),
  (78, .iload 5, 44, 5, 0, .null, false),
  (80, .invokevirtual 290, 45, 111, 5, .null, false),
  (83, .istore 6, 46, 6, 0, .null, false),
  (85, .aload_n 0, 47, 0, 0, .null, false),
  (86, .getfield 39, 48, 5, 5, .null, false),
  (89, .getfield 301, 49, 0, 5, .null, false),
  (92, .iload 5, 50, 5, 0, .null, false),
  (94, .dup2, 51, 0, 0, .null, false),
  (95, .iaload, 52, 0, 0, .null, false),
  (96, .iconst 1, 53, 0, 0, .int 1, false),
  (97, .isub, 54, 0, 0, .null, false),
  (98, .iastore, 55, 0, 0, .null, false),
  (99, .iload 6, 56, 6, 0, .null, false),
  (101, .ifCond .eq 15, 57, 66, 0, .null, false),
  (104, .aload_n 0, 58, 0, 0, .null, false),
  (105, .getfield 50, 59, 5, 7, .null, false),
  (108, .iload_n 3, 60, 3, 0, .null, false),
  (109, .iconst 1, 61, 0, 0, .int 1, false),
  (110, .isub, 62, 0, 0, .null, false),
  (111, .iload 5, 63, 5, 0, .null, false),
  (113, .iastore, 64, 0, 0, .null, false)]
def q_X5_canReach_2 : List mm_N := [(114, .iconst 1, 65, 0, 0, .int 1, false),
  (115, .ireturn, 0, 0, 0, .null, false),
  (116, .iinc 5 1, 67, 5, 0, .int 1, true),
  (119, .goto (-85), 0, 18, 0, .null, false),
  (122, .iconst 0, 69, 0, 0, .int 0, false),
  (123, .ireturn, 0, 0, 0, .null, false)]
def q_X5_canReach : List (List mm_N) := [q_X5_canReach_0, q_X5_canReach_1, q_X5_canReach_2]
def q_X5_changedWithout_0 : List mm_N := [(0, .aload_n 0, 1, 0, 0, .null, false),
  (1, .iconst 0, 2, 0, 0, .int 0, false),
  (2, .invokevirtual 168, 3, 109, 2, .null, false),
  (5, .aload_n 0, 4, 0, 0, .null, false),
  (6, .getfield 46, 5, 5, 6, .null, false),
  (9, .invokevirtual 209, 6, 47, 1, .null, false),
  (12, .istore_n 2, 7, 2, 0, .null, false),
  (13, .aload_n 0, 8, 0, 0, .null, false),
  (14, .getfield 46, 9, 5, 6, .null, false),
  (17, .invokevirtual 206, 10, 48, 1, .null, false),
  (20, .istore_n 3, 11, 3, 0, .null, false),
  (21, .aload_n 0, 12, 0, 0, .null, false),
  (22, .iload_n 1, 13, 1, 0, .null, false),
  (23, .invokevirtual 168, 14, 109, 2, .null, false),
  (26, .iload_n 2, 15, 2, 0, .null, false),
  (27, .aload_n 0, 16, 0, 0, .null, false),
  (28, .getfield 46, 17, 5, 6, .null, false),
  (31, .invokevirtual 209, 18, 47, 1, .null, false),
  (34, .ixor, 19, 0, 0, .null, false),
  (35, .iload_n 3, 20, 3, 0, .null, false),
  (36, .aload_n 0, 21, 0, 0, .null, false),
  (37, .getfield 46, 22, 5, 6, .null, false),
  (40, .invokevirtual 206, 23, 48, 1, .null, false),
  (43, .ixor, 24, 0, 0, .null, false),
  (44, .ior, 25, 0, 0, .null, false),
  (45, .istore 4, 26, 4, 0, .null, false),
  (47, .iload 4, 27, 4, 0, .null, false),
  (49, .iload_n 1, 28, 1, 0, .null, false),
  (50, .iconst (-1), 29, 0, 0, .int (-1), false),
  (51, .ixor, 30, 0, 0, .null, false),
  (52, .iand, 31, 0, 0, .null, false),
  (53, .invokestatic 163, 32, 208, 1, .null, false)]
def q_X5_changedWithout_1 : List mm_N := [(56, .ireturn, 0, 0, 0, .null, false)]
def q_X5_changedWithout : List (List mm_N) := [q_X5_changedWithout_0, q_X5_changedWithout_1]
def q_X5_fileByLot_0 : List mm_N := [(0, .iload_n 1, 1, 1, 0, .null, false),
  (1, .iconst 3, 2, 0, 0, .int 3, false),
  (2, .ishr, 3, 0, 0, .null, false),
  (3, .bipush 10, 4, 0, 0, .int 10, false),
  (5, .irem, 5, 0, 0, .null, false),
  (6, .istore_n 2, 6, 2, 0, .null, false),
  (7, .iconst 0, 7, 0, 0, .int 0, false),
  (8, .istore_n 3, 8, 3, 0, .null, false),
  (9, .iconst 0, 9, 0, 0, .int 0, false),
  (10, .istore 4, 10, 4, 0, .null, false),
  (12, .iload 4, 11, 4, 0, .null, true),
  (14, .aload_n 0, 12, 0, 0, .null, false),
  (15, .getfield 21, 13, 5, 2, .null, false),
  (18, .getfield 140, 14, 1, 6, .null, false),
  (21, .if_icmp .ge 30, 15, 29, 0, .null, false),
  (24, .iload_n 3, 16, 3, 0, .null, false),
  (25, .aload_n 0, 17, 0, 0, .null, false),
  (26, .getfield 21, 18, 5, 2, .null, false),
  (29, .iload 4, 19, 4, 0, .null, false),
  (31, .iload_n 2, 20, 2, 0, .null, false),
  (32, .invokevirtual 180, 21, 10, 3, .null, false),
  (35, .ifCond .eq 7, 22, 24, 0, .null, false),
  (38, .iconst 1, 23, 0, 0, .int 1, false),
  (39, .goto 4, 0, 25, 0, .null, false),
  (42, .iconst 0, 25, 0, 0, .int 0, false),
  (43, .iadd, 26, 0, 0, .null, true),
  (44, .istore_n 3, 27, 3, 0, .null, false),
  (45, .iinc 4 1, 28, 4, 0, .int 1, false),
  (48, .goto (-36), 0, 10, 0, .null, false),
  (51, .bipush (-9), 30, 0, 0, .int (-9), false),
  (53, .istore 4, 31, 4, 0, .null, false),
  (55, .iconst 0, 32, 0, 0, .int 0, false)]
def q_X5_fileByLot_1 : List mm_N := [(56, .istore 5, 33, 5, 0, .null, false),
  (58, .iload_n 3, 34, 3, 0, .null, false),
  (59, .ifCond .le 35, 35, 55, 0, .null, false),
  (62, .aload_n 0, 36, 0, 0, .null, false),
  (63, .getfield 21, 37, 5, 2, .null, false),
  (66, .iload_n 1, 38, 1, 0, .null, false),
  (67, .bipush 8, 39, 0, 0, .int 8, false),
  (69, .ishr, 40, 0, 0, .null, false),
  (70, .iload_n 3, 41, 3, 0, .null, false),
  (71, .irem, 42, 0, 0, .null, false),
  (72, .iload_n 2, 43, 2, 0, .null, false),
  (73, .invokevirtual 304, 44, 11, 3, .null, false),
  (76, .istore 4, 45, 4, 0, .null, false),
  (78, .iload_n 1, 46, 1, 0, .null, false),
  (79, .bipush 14, 47, 0, 0, .int 14, false),
  (81, .ishr, 48, 0, 0, .null, false),
  (82, .iconst 2, 49, 0, 0, .int 2, false),
  (83, .irem, 50, 0, 0, .null, false),
  (84, .ifCond .ne 7, 51, 53, 0, .null, false),
  (87, .iconst (-1), 52, 0, 0, .int (-1), false),
  (88, .goto 4, 0, 54, 0, .null, false),
  (91, .iconst 1, 54, 0, 0, .int 1, false),
  (92, .istore 5, 55, 5, 0, .null, true),
  (94, .aload_n 0, 56, 0, 0, .null, true),
  (95, .getfield 21, 57, 5, 2, .null, false),
  (98, .iload_n 1, 58, 1, 0, .null, false),
  (99, .bipush 6, 59, 0, 0, .int 6, false),
  (101, .irem, 60, 0, 0, .null, false),
  (102, .iload_n 2, 61, 2, 0, .null, false),
  (103, .iload_n 1, 62, 1, 0, .null, false),
  (104, .bipush 7, 63, 0, 0, .int 7, false),
  (106, .ishr, 64, 0, 0, .null, false)]
def q_X5_fileByLot_2 : List mm_N := [(107, .iconst 2, 65, 0, 0, .int 2, false),
  (108, .irem, 66, 0, 0, .null, false),
  (109, .iload 4, 67, 4, 0, .null, false),
  (111, .iload 5, 68, 5, 0, .null, false),
  (113, .iconst 0, 69, 0, 0, .int 0, false),
  (114, .invokevirtual 183, 70, 12, 7, .null, false),
  (117, .return_, 0, 0, 0, .null, false)]
def q_X5_fileByLot : List (List mm_N) := [q_X5_fileByLot_0, q_X5_fileByLot_1, q_X5_fileByLot_2]
def q_X5_countOf_0 : List mm_N := [(0, .iload_n 1, 1, 1, 0, .null, false),
  (1, .tableswitch 76 5 7 #[27, 35, 43], 0, 0, 31, .null, false),
  (28, .aload_n 0, 3, 0, 0, .null, false),
  (29, .getfield 11, 4, 5, 0, .null, false),
  (32, .invokestatic 307, 5, 115, 1, .null, false),
  (35, .ireturn, 0, 0, 0, .null, false),
  (36, .aload_n 0, 7, 0, 0, .null, false),
  (37, .getfield 15, 8, 5, 1, .null, false),
  (40, .invokestatic 307, 9, 115, 1, .null, false),
  (43, .ireturn, 0, 0, 0, .null, false),
  (44, .iconst 0, 11, 0, 0, .int 0, false),
  (45, .istore_n 2, 12, 2, 0, .null, false),
  (46, .iconst 0, 13, 0, 0, .int 0, false),
  (47, .istore_n 3, 14, 3, 0, .null, false),
  (48, .iload_n 3, 15, 3, 0, .null, true),
  (49, .iconst 3, 16, 0, 0, .int 3, false),
  (50, .if_icmp .ge 25, 17, 29, 0, .null, false),
  (53, .iload_n 2, 18, 2, 0, .null, false),
  (54, .aload_n 0, 19, 0, 0, .null, false),
  (55, .iload_n 3, 20, 3, 0, .null, false),
  (56, .invokevirtual 187, 21, 108, 2, .null, false),
  (59, .ifCond .eq 7, 22, 24, 0, .null, false),
  (62, .iconst 1, 23, 0, 0, .int 1, false),
  (63, .goto 4, 0, 25, 0, .null, false),
  (66, .iconst 0, 25, 0, 0, .int 0, false),
  (67, .iadd, 26, 0, 0, .null, true),
  (68, .istore_n 2, 27, 2, 0, .null, false),
  (69, .iinc 3 1, 28, 3, 0, .int 1, false),
  (72, .goto (-24), 0, 14, 0, .null, false),
  (75, .iload_n 2, 30, 2, 0, .null, false),
  (76, .ireturn, 0, 0, 0, .null, false),
  (77, .aload_n 0, 32, 0, 0, .null, false)]
def q_X5_countOf_1 : List mm_N := [(78, .getfield 21, 33, 5, 2, .null, false),
  (81, .iload_n 1, 34, 1, 0, .null, false),
  (82, .invokevirtual 311, 35, 21, 2, .null, false),
  (85, .ireturn, 0, 0, 0, .null, false)]
def q_X5_countOf : List (List mm_N) := [q_X5_countOf_0, q_X5_countOf_1]
def q_X5_there_0 : List mm_N := [(0, .iconst 0, 1, 0, 0, .int 0, false),
  (1, .istore_n 1, 2, 1, 0, .null, false),
  (2, .iconst 0, 3, 0, 0, .int 0, false),
  (3, .istore_n 2, 4, 2, 0, .null, false),
  (4, .iload_n 2, 5, 2, 0, .null, true),
  (5, .aload_n 0, 6, 0, 0, .null, false),
  (6, .arraylength, 7, 0, 0, .null, false),
  (7, .if_icmp .ge 26, 8, 21, 0, .null, false),
  (10, .iload_n 1, 9, 1, 0, .null, false),
  (11, .aload_n 0, 10, 0, 0, .null, false),
  (12, .iload_n 2, 11, 2, 0, .null, false),
  (13, .aaload, 12, 0, 0, .null, false),
  (14, .invokevirtual 97, 13, 35, 1, .null, false),
  (17, .ifCond .eq 7, 14, 16, 0, .null, false),
  (20, .iconst 0, 15, 0, 0, .int 0, false),
  (21, .goto 4, 0, 17, 0, .null, false),
  (24, .iconst 1, 17, 0, 0, .int 1, false),
  (25, .iadd, 18, 0, 0, .null, true),
  (26, .istore_n 1, 19, 1, 0, .null, false),
  (27, .iinc 2 1, 20, 2, 0, .int 1, false),
  (30, .goto (-26), 0, 4, 0, .null, false),
  (33, .iload_n 1, 22, 1, 0, .null, false),
  (34, .ireturn, 0, 0, 0, .null, false)]
def q_X5_there : List (List mm_N) := [q_X5_there_0]
def q_X6_init_0 : List mm_N := [(0, .aload_n 0, 1, 0, 0, .null, false),
  (1, .invokespecial 1, 2, 1000, 1, .null, false),
  (4, .aload_n 0, 3, 0, 0, .null, false),
  (5, .bipush 6, 4, 0, 0, .int 6, false),
  (7, .newarray .int, 5, 0, 0, .null, false),
  (9, .putfield 7, 6, 6, 0, .null, false),
  (12, .aload_n 0, 7, 0, 0, .null, false),
  (13, .sipush 240, 8, 0, 0, .int 240, false),
  (16, .newarray .int, 9, 0, 0, .null, false),
  (18, .putfield 13, 10, 6, 1, .null, false),
  (21, .aload_n 0, 11, 0, 0, .null, false),
  (22, .iconst 4, 12, 0, 0, .int 4, false),
  (23, .newarray .int, 13, 0, 0, .null, false),
  (25, .putfield 16, 14, 6, 2, .null, false),
  (28, .aload_n 0, 15, 0, 0, .null, false),
  (29, .sipush 320, 16, 0, 0, .int 320, false),
  (32, .newarray .int, 17, 0, 0, .null, false),
  (34, .putfield 19, 18, 6, 3, .null, false),
  (37, .aload_n 0, 19, 0, 0, .null, false),
  (38, .bipush 40, 20, 0, 0, .int 40, false),
  (40, .newarray .int, 21, 0, 0, .null, false),
  (42, .putfield 22, 22, 6, 4, .null, false),
  (45, .aload_n 0, 23, 0, 0, .null, false),
  (46, .bipush 6, 24, 0, 0, .int 6, false),
  (48, .newarray .int, 25, 0, 0, .null, false),
  (50, .putfield 25, 26, 6, 6, .null, false),
  (53, .aload_n 0, 27, 0, 0, .null, false),
  (54, .lconst 1, 28, 0, 0, .long 1, false),
  (55, .putfield 28, 29, 6, 9, .null, false),
  (58, .aload_n 0, 30, 0, 0, .null, false),
  (59, .bipush 9, 31, 0, 0, .int 9, false),
  (61, .newarray .int, 32, 0, 0, .null, false)]
def q_X6_init_1 : List mm_N := [(63, .putfield 32, 33, 6, 11, .null, false),
  (66, .aload_n 0, 34, 0, 0, .null, false),
  (67, .bipush 9, 35, 0, 0, .int 9, false),
  (69, .newarray .int, 36, 0, 0, .null, false),
  (71, .putfield 35, 37, 6, 12, .null, false),
  (74, .aload_n 0, 38, 0, 0, .null, false),
  (75, .bipush 9, 39, 0, 0, .int 9, false),
  (77, .newarray .int, 40, 0, 0, .null, false),
  (79, .putfield 38, 41, 6, 13, .null, false),
  (82, .aload_n 0, 42, 0, 0, .null, false),
  (83, .bipush 9, 43, 0, 0, .int 9, false),
  (85, .newarray .int, 44, 0, 0, .null, false),
  (87, .putfield 41, 45, 6, 14, .null, false),
  (90, .aload_n 0, 46, 0, 0, .null, false),
  (91, .bipush 9, 47, 0, 0, .int 9, false),
  (93, .newarray .int, 48, 0, 0, .null, false),
  (95, .putfield 44, 49, 6, 15, .null, false),
  (98, .aload_n 0, 50, 0, 0, .null, false),
  (99, .bipush 9, 51, 0, 0, .int 9, false),
  (101, .newarray .int, 52, 0, 0, .null, false),
  (103, .putfield 47, 53, 6, 16, .null, false),
  (106, .aload_n 0, 54, 0, 0, .null, false),
  (107, .iconst 3, 55, 0, 0, .int 3, false),
  (108, .newarray .int, 56, 0, 0, .null, false),
  (110, .putfield 50, 57, 6, 17, .null, false),
  (113, .aload_n 0, 58, 0, 0, .null, false),
  (114, .sipush 162, 59, 0, 0, .int 162, false),
  (117, .newarray .int, 60, 0, 0, .null, false),
  (119, .putfield 53, 61, 6, 18, .null, false),
  (122, .aload_n 0, 62, 0, 0, .null, false),
  (123, .bipush 9, 63, 0, 0, .int 9, false),
  (125, .newarray .int, 64, 0, 0, .null, false)]
def q_X6_init_2 : List mm_N := [(127, .putfield 56, 65, 6, 20, .null, false),
  (130, .aload_n 0, 66, 0, 0, .null, false),
  (131, .bipush 6, 67, 0, 0, .int 6, false),
  (133, .newarray .int, 68, 0, 0, .null, false),
  (135, .putfield 59, 69, 6, 23, .null, false),
  (138, .aload_n 0, 70, 0, 0, .null, false),
  (139, .bipush 9, 71, 0, 0, .int 9, false),
  (141, .newarray .int, 72, 0, 0, .null, false),
  (143, .putfield 62, 73, 6, 24, .null, false),
  (146, .iconst 0, 74, 0, 0, .int 0, false),
  (147, .istore_n 1, 75, 1, 0, .null, false),
  (148, .iload_n 1, 76, 1, 0, .null, true),
  (149, .bipush 6, 77, 0, 0, .int 6, false),
  (151, .if_icmp .ge 17, 78, 85, 0, .null, false),
  (154, .aload_n 0, 79, 0, 0, .null, false),
  (155, .getfield 7, 80, 6, 0, .null, false),
  (158, .iload_n 1, 81, 1, 0, .null, false),
  (159, .bipush (-9), 82, 0, 0, .int (-9), false),
  (161, .iastore, 83, 0, 0, .null, false),
  (162, .iinc 1 1, 84, 1, 0, .int 1, false),
  (165, .goto (-17), 0, 75, 0, .null, false),
  (168, .iconst 0, 86, 0, 0, .int 0, false),
  (169, .istore_n 1, 87, 1, 0, .null, false),
  (170, .iload_n 1, 88, 1, 0, .null, true),
  (171, .iconst 4, 89, 0, 0, .int 4, false),
  (172, .if_icmp .ge 17, 90, 97, 0, .null, false),
  (175, .aload_n 0, 91, 0, 0, .null, false),
  (176, .getfield 16, 92, 6, 2, .null, false),
  (179, .iload_n 1, 93, 1, 0, .null, false),
  (180, .bipush (-9), 94, 0, 0, .int (-9), false),
  (182, .iastore, 95, 0, 0, .null, false),
  (183, .iinc 1 1, 96, 1, 0, .int 1, false)]
def q_X6_init_3 : List mm_N := [(186, .goto (-16), 0, 87, 0, .null, false),
  (189, .iconst 0, 98, 0, 0, .int 0, false),
  (190, .istore_n 1, 99, 1, 0, .null, false),
  (191, .iload_n 1, 100, 1, 0, .null, true),
  (192, .iconst 3, 101, 0, 0, .int 3, false),
  (193, .if_icmp .ge 17, 102, 109, 0, .null, false),
  (196, .aload_n 0, 103, 0, 0, .null, false),
  (197, .getfield 50, 104, 6, 17, .null, false),
  (200, .iload_n 1, 105, 1, 0, .null, false),
  (201, .bipush (-9), 106, 0, 0, .int (-9), false),
  (203, .iastore, 107, 0, 0, .null, false),
  (204, .iinc 1 1, 108, 1, 0, .int 1, false),
  (207, .goto (-16), 0, 99, 0, .null, false),
  (210, .return_, 0, 0, 0, .null, false)]
def q_X6_init : List (List mm_N) := [q_X6_init_0, q_X6_init_1, q_X6_init_2, q_X6_init_3]
def q_X6_in_0 : List mm_N := [(0, .iload_n 0, 1, 0, 0, .null, false),
  (1, .iload_n 1, 2, 1, 0, .null, false),
  (2, .if_icmp .lt 12, 3, 8, 0, .null, false),
  (5, .iload_n 0, 4, 0, 0, .null, false),
  (6, .iload_n 2, 5, 2, 0, .null, false),
  (7, .if_icmp .gt 7, 6, 8, 0, .null, false),
  (10, .iconst 1, 7, 0, 0, .int 1, false),
  (11, .goto 4, 0, 9, 0, .null, false),
  (14, .iconst 0, 9, 0, 0, .int 0, true),
  (15, .ireturn, 0, 0, 0, .null, true)]
def q_X6_in : List (List mm_N) := [q_X6_in_0]
def q_X6_has_0 : List mm_N := [(0, .iload_n 0, 1, 0, 0, .null, false),
  (1, .iload_n 1, 2, 1, 0, .null, false),
  (2, .ishr, 3, 0, 0, .null, false),
  (3, .iconst 1, 4, 0, 0, .int 1, false),
  (4, .iand, 5, 0, 0, .null, false),
  (5, .iconst 1, 6, 0, 0, .int 1, false),
  (6, .if_icmp .ne 7, 7, 9, 0, .null, false),
  (9, .iconst 1, 8, 0, 0, .int 1, false),
  (10, .goto 4, 0, 10, 0, .null, false),
  (13, .iconst 0, 10, 0, 0, .int 0, false),
  (14, .ireturn, 0, 0, 0, .null, true)]
def q_X6_has : List (List mm_N) := [q_X6_has_0]
def q_X6_ones_0 : List mm_N := [(0, .iconst 0, 1, 0, 0, .int 0, false),
  (1, .istore_n 1, 2, 1, 0, .null, false),
  (2, .iconst 0, 3, 0, 0, .int 0, false),
  (3, .istore_n 2, 4, 2, 0, .null, false),
  (4, .iload_n 2, 5, 2, 0, .null, true),
  (5, .bipush 9, 6, 0, 0, .int 9, false),
  (7, .if_icmp .ge 17, 7, 17, 0, .null, false),
  (10, .iload_n 1, 8, 1, 0, .null, false),
  (11, .iload_n 0, 9, 0, 0, .null, false),
  (12, .iload_n 2, 10, 2, 0, .null, false),
  (13, .ishr, 11, 0, 0, .null, false),
  (14, .iconst 1, 12, 0, 0, .int 1, false),
  (15, .iand, 13, 0, 0, .null, false),
  (16, .iadd, 14, 0, 0, .null, false),
  (17, .istore_n 1, 15, 1, 0, .null, false),
  (18, .iinc 2 1, 16, 2, 0, .int 1, false),
  (21, .goto (-17), 0, 4, 0, .null, false),
  (24, .iload_n 1, 18, 1, 0, .null, false),
  (25, .ireturn, 0, 0, 0, .null, false)]
def q_X6_ones : List (List mm_N) := [q_X6_ones_0]
def q_X6_finds_0 : List mm_N := [(0, .aload_n 0, 1, 0, 0, .null, false),
  (1, .iload_n 1, 2, 1, 0, .null, false),
  (2, .putfield 65, 3, 6, 5, .null, false),
  (5, .aload_n 0, 4, 0, 0, .null, false),
  (6, .getfield 25, 5, 6, 6, .null, false),
  (9, .iload_n 1, 6, 1, 0, .null, false),
  (10, .dup2, 7, 0, 0, .null, false),
  (11, .iaload, 8, 0, 0, .null, false),
  (12, .iconst 1, 9, 0, 0, .int 1, false),
  (13, .iadd, 10, 0, 0, .null, false),
  (14, .iastore, 11, 0, 0, .null, false),
  (15, .bipush (-3), 12, 0, 0, .int (-3), false),
  (17, .ireturn, 0, 0, 0, .null, false)]
def q_X6_finds : List (List mm_N) := [q_X6_finds_0]
def q_X6_tells_0 : List mm_N := [(0, .aload_n 0, 1, 0, 0, .null, false),
  (1, .iload_n 1, 2, 1, 0, .null, false),
  (2, .putfield 69, 3, 6, 7, .null, false),
  (5, .iconst 1, 4, 0, 0, .int 1, false),
  (6, .ireturn, 0, 0, 0, .null, false)]
def q_X6_tells : List (List mm_N) := [q_X6_tells_0]
def q_X6_isRow_0 : List mm_N := [(0, .iload_n 0, 1, 0, 0, .null, false),
  (1, .iconst 0, 2, 0, 0, .int 0, false),
  (2, .iconst 5, 3, 0, 0, .int 5, false),
  (3, .invokestatic 72, 4, 117, 3, .null, false),
  (6, .ireturn, 0, 0, 0, .null, false)]
def q_X6_isRow : List (List mm_N) := [q_X6_isRow_0]
def q_X6_isText_0 : List mm_N := [(0, .iload_n 0, 1, 0, 0, .null, false),
  (1, .iconst 0, 2, 0, 0, .int 0, false),
  (2, .iconst 3, 3, 0, 0, .int 3, false),
  (3, .invokestatic 72, 4, 117, 3, .null, false),
  (6, .ireturn, 0, 0, 0, .null, false)]
def q_X6_isText : List (List mm_N) := [q_X6_isText_0]
def q_X6_row_0 : List mm_N := [(0, .iload_n 1, 1, 1, 0, .null, false),
  (1, .invokestatic 76, 2, 122, 1, .null, false),
  (4, .ifCond .eq 9, 3, 6, 0, .null, false),
  (7, .iload_n 2, 4, 2, 0, .null, false),
  (8, .bipush 40, 5, 0, 0, .int 40, false),
  (10, .if_icmp .le 5, 6, 8, 0, .null, false),
  (13, .iconst (-1), 7, 0, 0, .int (-1), true),
  (14, .ireturn, 0, 0, 0, .null, false),
  (15, .iload_n 2, 9, 2, 0, .null, false),
  (16, .ifCond .ge 9, 10, 14, 0, .null, false),
  (19, .aload_n 0, 11, 0, 0, .null, false),
  (20, .iconst 5, 12, 0, 0, .int 5, false),
  (21, .invokevirtual 80, 13, 120, 2, .null, false),
  (24, .ireturn, 0, 0, 0, .null, false),
  (25, .aload_n 0, 15, 0, 0, .null, false),
  (26, .getfield 7, 16, 6, 0, .null, false),
  (29, .iload_n 1, 17, 1, 0, .null, false),
  (30, .iload_n 2, 18, 2, 0, .null, false),
  (31, .iastore, 19, 0, 0, .null, false),
  (32, .iconst 0, 20, 0, 0, .int 0, false),
  (33, .istore_n 3, 21, 3, 0, .null, false),
  (34, .iload_n 3, 22, 3, 0, .null, true),
  (35, .bipush 40, 23, 0, 0, .int 40, false),
  (37, .if_icmp .ge 21, 24, 35, 0, .null, false),
  (40, .aload_n 0, 25, 0, 0, .null, false),
  (41, .getfield 13, 26, 6, 1, .null, false),
  (44, .bipush 40, 27, 0, 0, .int 40, false),
  (46, .iload_n 1, 28, 1, 0, .null, false),
  (47, .imul, 29, 0, 0, .null, false),
  (48, .iload_n 3, 30, 3, 0, .null, false),
  (49, .iadd, 31, 0, 0, .null, false),
  (50, .iconst 0, 32, 0, 0, .int 0, false)]
def q_X6_row_1 : List mm_N := [(51, .iastore, 33, 0, 0, .null, false),
  (52, .iinc 3 1, 34, 3, 0, .int 1, false),
  (55, .goto (-21), 0, 21, 0, .null, false),
  (58, .iload_n 2, 36, 2, 0, .null, false),
  (59, .ireturn, 0, 0, 0, .null, false)]
def q_X6_row : List (List mm_N) := [q_X6_row_0, q_X6_row_1]
def q_X6_lay_0 : List mm_N := [(0, .iload_n 1, 1, 1, 0, .null, false),
  (1, .invokestatic 76, 2, 122, 1, .null, false),
  (4, .ifCond .ne 5, 3, 5, 0, .null, false),
  (7, .iconst (-1), 4, 0, 0, .int (-1), false),
  (8, .ireturn, 0, 0, 0, .null, false),
  (9, .aload_n 0, 6, 0, 0, .null, false),
  (10, .getfield 7, 7, 6, 0, .null, false),
  (13, .iload_n 1, 8, 1, 0, .null, false),
  (14, .iaload, 9, 0, 0, .null, false),
  (15, .ifCond .ge 9, 10, 14, 0, .null, false),
  (18, .aload_n 0, 11, 0, 0, .null, false),
  (19, .iconst 1, 12, 0, 0, .int 1, false),
  (20, .invokevirtual 80, 13, 120, 2, .null, false),
  (23, .ireturn, 0, 0, 0, .null, false),
  (24, .iload_n 2, 15, 2, 0, .null, false),
  (25, .iconst 0, 16, 0, 0, .int 0, false),
  (26, .aload_n 0, 17, 0, 0, .null, false),
  (27, .getfield 7, 18, 6, 0, .null, false),
  (30, .iload_n 1, 19, 1, 0, .null, false),
  (31, .iaload, 20, 0, 0, .null, false),
  (32, .iconst 1, 21, 0, 0, .int 1, false),
  (33, .isub, 22, 0, 0, .null, false),
  (34, .invokestatic 72, 23, 117, 3, .null, false),
  (37, .ifCond .ne 9, 24, 28, 0, .null, false),
  (40, .aload_n 0, 25, 0, 0, .null, false),
  (41, .iconst 2, 26, 0, 0, .int 2, false),
  (42, .invokevirtual 80, 27, 120, 2, .null, false),
  (45, .ireturn, 0, 0, 0, .null, false),
  (46, .aload_n 0, 29, 0, 0, .null, false),
  (47, .getfield 13, 30, 6, 1, .null, false),
  (50, .bipush 40, 31, 0, 0, .int 40, false),
  (52, .iload_n 1, 32, 1, 0, .null, false)]
def q_X6_lay_1 : List mm_N := [(53, .imul, 33, 0, 0, .null, false),
  (54, .iload_n 2, 34, 2, 0, .null, false),
  (55, .iadd, 35, 0, 0, .null, false),
  (56, .iaload, 36, 0, 0, .null, false),
  (57, .istore 4, 37, 4, 0, .null, false),
  (59, .aload_n 0, 38, 0, 0, .null, false),
  (60, .getfield 13, 39, 6, 1, .null, false),
  (63, .bipush 40, 40, 0, 0, .int 40, false),
  (65, .iload_n 1, 41, 1, 0, .null, false),
  (66, .imul, 42, 0, 0, .null, false),
  (67, .iload_n 2, 43, 2, 0, .null, false),
  (68, .iadd, 44, 0, 0, .null, false),
  (69, .iload_n 3, 45, 3, 0, .null, false),
  (70, .iastore, 46, 0, 0, .null, false),
  (71, .aload_n 0, 47, 0, 0, .null, false),
  (72, .iload 4, 48, 4, 0, .null, false),
  (74, .invokevirtual 84, 49, 121, 2, .null, false),
  (77, .ireturn, 0, 0, 0, .null, false)]
def q_X6_lay : List (List mm_N) := [q_X6_lay_0, q_X6_lay_1]
def q_X6_at_0 : List mm_N := [(0, .iload_n 1, 1, 1, 0, .null, false),
  (1, .invokestatic 76, 2, 122, 1, .null, false),
  (4, .ifCond .ne 5, 3, 5, 0, .null, false),
  (7, .iconst (-1), 4, 0, 0, .int (-1), false),
  (8, .ireturn, 0, 0, 0, .null, false),
  (9, .aload_n 0, 6, 0, 0, .null, false),
  (10, .getfield 7, 7, 6, 0, .null, false),
  (13, .iload_n 1, 8, 1, 0, .null, false),
  (14, .iaload, 9, 0, 0, .null, false),
  (15, .ifCond .ge 9, 10, 14, 0, .null, false),
  (18, .aload_n 0, 11, 0, 0, .null, false),
  (19, .iconst 1, 12, 0, 0, .int 1, false),
  (20, .invokevirtual 80, 13, 120, 2, .null, false),
  (23, .ireturn, 0, 0, 0, .null, false),
  (24, .iload_n 2, 15, 2, 0, .null, false),
  (25, .iconst 0, 16, 0, 0, .int 0, false),
  (26, .aload_n 0, 17, 0, 0, .null, false),
  (27, .getfield 7, 18, 6, 0, .null, false),
  (30, .iload_n 1, 19, 1, 0, .null, false),
  (31, .iaload, 20, 0, 0, .null, false),
  (32, .iconst 1, 21, 0, 0, .int 1, false),
  (33, .isub, 22, 0, 0, .null, false),
  (34, .invokestatic 72, 23, 117, 3, .null, false),
  (37, .ifCond .eq 21, 24, 35, 0, .null, false),
  (40, .aload_n 0, 25, 0, 0, .null, false),
  (41, .aload_n 0, 26, 0, 0, .null, false),
  (42, .getfield 13, 27, 6, 1, .null, false),
  (45, .bipush 40, 28, 0, 0, .int 40, false),
  (47, .iload_n 1, 29, 1, 0, .null, false),
  (48, .imul, 30, 0, 0, .null, false),
  (49, .iload_n 2, 31, 2, 0, .null, false),
  (50, .iadd, 32, 0, 0, .null, false)]
def q_X6_at_1 : List mm_N := [(51, .iaload, 33, 0, 0, .null, false),
  (52, .invokevirtual 84, 34, 121, 2, .null, false),
  (55, .goto 8, 0, 38, 0, .null, false),
  (58, .aload_n 0, 36, 0, 0, .null, false),
  (59, .iconst 2, 37, 0, 0, .int 2, false),
  (60, .invokevirtual 80, 38, 120, 2, .null, false),
  (63, .ireturn, 0, 0, 0, .null, true)]
def q_X6_at : List (List mm_N) := [q_X6_at_0, q_X6_at_1]
def q_X6_tear_0 : List mm_N := [(0, .iload_n 1, 1, 1, 0, .null, false),
  (1, .invokestatic 76, 2, 122, 1, .null, false),
  (4, .ifCond .ne 5, 3, 5, 0, .null, false),
  (7, .iconst (-1), 4, 0, 0, .int (-1), false),
  (8, .ireturn, 0, 0, 0, .null, false),
  (9, .aload_n 0, 6, 0, 0, .null, false),
  (10, .getfield 7, 7, 6, 0, .null, false),
  (13, .iload_n 1, 8, 1, 0, .null, false),
  (14, .iaload, 9, 0, 0, .null, false),
  (15, .ifCond .ge 9, 10, 14, 0, .null, false),
  (18, .aload_n 0, 11, 0, 0, .null, false),
  (19, .iconst 1, 12, 0, 0, .int 1, false),
  (20, .invokevirtual 80, 13, 120, 2, .null, false),
  (23, .ireturn, 0, 0, 0, .null, false),
  (24, .aload_n 0, 15, 0, 0, .null, false),
  (25, .getfield 7, 16, 6, 0, .null, false),
  (28, .iload_n 1, 17, 1, 0, .null, false),
  (29, .bipush (-9), 18, 0, 0, .int (-9), false),
  (31, .iastore, 19, 0, 0, .null, false),
  (32, .iconst 1, 20, 0, 0, .int 1, false),
  (33, .ireturn, 0, 0, 0, .null, false)]
def q_X6_tear : List (List mm_N) := [q_X6_tear_0]
def q_X6_isPart_0 : List mm_N := [(0, .iload_n 2, 1, 2, 0, .null, false),
  (1, .ifCond .lt 29, 2, 18, 0, .null, false),
  (4, .iload_n 2, 3, 2, 0, .null, false),
  (5, .aload_n 0, 4, 0, 0, .null, false),
  (6, .getfield 7, 5, 6, 0, .null, false),
  (9, .iload_n 1, 6, 1, 0, .null, false),
  (10, .iaload, 7, 0, 0, .null, false),
  (11, .if_icmp .gt 19, 8, 18, 0, .null, false),
  (14, .iload_n 3, 9, 3, 0, .null, false),
  (15, .aload_n 0, 10, 0, 0, .null, false),
  (16, .getfield 7, 11, 6, 0, .null, false),
  (19, .iload_n 1, 12, 1, 0, .null, false),
  (20, .iaload, 13, 0, 0, .null, false),
  (21, .iload_n 2, 14, 2, 0, .null, false),
  (22, .isub, 15, 0, 0, .null, false),
  (23, .if_icmp .gt 7, 16, 18, 0, .null, false),
  (26, .iconst 1, 17, 0, 0, .int 1, false),
  (27, .goto 4, 0, 19, 0, .null, false),
  (30, .iconst 0, 19, 0, 0, .int 0, true),
  (31, .ireturn, 0, 0, 0, .null, true)]
def q_X6_isPart : List (List mm_N) := [q_X6_isPart_0]
def q_X6_copy_0 : List mm_N := [(0, .iload_n 1, 1, 1, 0, .null, false),
  (1, .invokestatic 76, 2, 122, 1, .null, false),
  (4, .ifCond .eq 10, 3, 6, 0, .null, false),
  (7, .iload_n 3, 4, 3, 0, .null, false),
  (8, .invokestatic 76, 5, 122, 1, .null, false),
  (11, .ifCond .ne 5, 6, 8, 0, .null, false),
  (14, .iconst (-1), 7, 0, 0, .int (-1), true),
  (15, .ireturn, 0, 0, 0, .null, false),
  (16, .iload 5, 9, 5, 0, .null, false),
  (18, .ifCond .ge 9, 10, 14, 0, .null, false),
  (21, .aload_n 0, 11, 0, 0, .null, false),
  (22, .iconst 5, 12, 0, 0, .int 5, false),
  (23, .invokevirtual 80, 13, 120, 2, .null, false),
  (26, .ireturn, 0, 0, 0, .null, false),
  (27, .aload_n 0, 15, 0, 0, .null, false),
  (28, .getfield 7, 16, 6, 0, .null, false),
  (31, .iload_n 1, 17, 1, 0, .null, false),
  (32, .iaload, 18, 0, 0, .null, false),
  (33, .ifCond .lt 12, 19, 24, 0, .null, false),
  (36, .aload_n 0, 20, 0, 0, .null, false),
  (37, .getfield 7, 21, 6, 0, .null, false),
  (40, .iload_n 3, 22, 3, 0, .null, false),
  (41, .iaload, 23, 0, 0, .null, false),
  (42, .ifCond .ge 9, 24, 28, 0, .null, false),
  (45, .aload_n 0, 25, 0, 0, .null, true),
  (46, .iconst 1, 26, 0, 0, .int 1, false),
  (47, .invokevirtual 80, 27, 120, 2, .null, false),
  (50, .ireturn, 0, 0, 0, .null, false),
  (51, .aload_n 0, 29, 0, 0, .null, false),
  (52, .iload_n 1, 30, 1, 0, .null, false),
  (53, .iload_n 2, 31, 2, 0, .null, false),
  (54, .iload 5, 32, 5, 0, .null, false)]
def q_X6_copy_1 : List mm_N := [(56, .invokevirtual 87, 33, 128, 4, .null, false),
  (59, .ifCond .eq 15, 34, 40, 0, .null, false),
  (62, .aload_n 0, 35, 0, 0, .null, false),
  (63, .iload_n 3, 36, 3, 0, .null, false),
  (64, .iload 4, 37, 4, 0, .null, false),
  (66, .iload 5, 38, 5, 0, .null, false),
  (68, .invokevirtual 87, 39, 128, 4, .null, false),
  (71, .ifCond .ne 9, 40, 44, 0, .null, false),
  (74, .aload_n 0, 41, 0, 0, .null, true),
  (75, .iconst 2, 42, 0, 0, .int 2, false),
  (76, .invokevirtual 80, 43, 120, 2, .null, false),
  (79, .ireturn, 0, 0, 0, .null, false),
  (80, .iconst 0, 45, 0, 0, .int 0, false),
  (81, .istore 6, 46, 6, 0, .null, false),
  (83, .iload 6, 47, 6, 0, .null, true),
  (85, .iload 5, 48, 5, 0, .null, false),
  (87, .if_icmp .ge 30, 49, 65, 0, .null, false),
  (90, .aload_n 0, 50, 0, 0, .null, false),
  (91, .getfield 22, 51, 6, 4, .null, false),
  (94, .iload 6, 52, 6, 0, .null, false),
  (96, .aload_n 0, 53, 0, 0, .null, false),
  (97, .getfield 13, 54, 6, 1, .null, false),
  (100, .bipush 40, 55, 0, 0, .int 40, false),
  (102, .iload_n 1, 56, 1, 0, .null, false),
  (103, .imul, 57, 0, 0, .null, false),
  (104, .iload_n 2, 58, 2, 0, .null, false),
  (105, .iadd, 59, 0, 0, .null, false),
  (106, .iload 6, 60, 6, 0, .null, false),
  (108, .iadd, 61, 0, 0, .null, false),
  (109, .iaload, 62, 0, 0, .null, false),
  (110, .iastore, 63, 0, 0, .null, false),
  (111, .iinc 6 1, 64, 6, 0, .int 1, false)]
def q_X6_copy_2 : List mm_N := [(114, .goto (-31), 0, 46, 0, .null, false),
  (117, .iconst 0, 66, 0, 0, .int 0, false),
  (118, .istore 6, 67, 6, 0, .null, false),
  (120, .iload 6, 68, 6, 0, .null, true),
  (122, .iload 5, 69, 5, 0, .null, false),
  (124, .if_icmp .ge 31, 70, 86, 0, .null, false),
  (127, .aload_n 0, 71, 0, 0, .null, false),
  (128, .getfield 13, 72, 6, 1, .null, false),
  (131, .bipush 40, 73, 0, 0, .int 40, false),
  (133, .iload_n 3, 74, 3, 0, .null, false),
  (134, .imul, 75, 0, 0, .null, false),
  (135, .iload 4, 76, 4, 0, .null, false),
  (137, .iadd, 77, 0, 0, .null, false),
  (138, .iload 6, 78, 6, 0, .null, false),
  (140, .iadd, 79, 0, 0, .null, false),
  (141, .aload_n 0, 80, 0, 0, .null, false),
  (142, .getfield 22, 81, 6, 4, .null, false),
  (145, .iload 6, 82, 6, 0, .null, false),
  (147, .iaload, 83, 0, 0, .null, false),
  (148, .iastore, 84, 0, 0, .null, false),
  (149, .iinc 6 1, 85, 6, 0, .int 1, false),
  (152, .goto (-32), 0, 67, 0, .null, false),
  (155, .iconst 1, 87, 0, 0, .int 1, false),
  (156, .ireturn, 0, 0, 0, .null, false)]
def q_X6_copy : List (List mm_N) := [q_X6_copy_0, q_X6_copy_1, q_X6_copy_2]
def q_X6_mean_0 : List mm_N := [(0, .iload_n 1, 1, 1, 0, .null, false),
  (1, .invokestatic 76, 2, 122, 1, .null, false),
  (4, .ifCond .ne 5, 3, 5, 0, .null, false),
  (7, .iconst (-1), 4, 0, 0, .int (-1), false),
  (8, .ireturn, 0, 0, 0, .null, false),
  (9, .aload_n 0, 6, 0, 0, .null, false),
  (10, .getfield 7, 7, 6, 0, .null, false),
  (13, .iload_n 1, 8, 1, 0, .null, false),
  (14, .iaload, 9, 0, 0, .null, false),
  (15, .ifCond .ge 9, 10, 14, 0, .null, false),
  (18, .aload_n 0, 11, 0, 0, .null, false),
  (19, .iconst 1, 12, 0, 0, .int 1, false),
  (20, .invokevirtual 80, 13, 120, 2, .null, false),
  (23, .ireturn, 0, 0, 0, .null, false),
  (24, .aload_n 0, 15, 0, 0, .null, false),
  (25, .getfield 7, 16, 6, 0, .null, false),
  (28, .iload_n 1, 17, 1, 0, .null, false),
  (29, .iaload, 18, 0, 0, .null, false),
  (30, .ifCond .ne 9, 19, 23, 0, .null, false),
  (33, .aload_n 0, 20, 0, 0, .null, false),
  (34, .iconst 4, 21, 0, 0, .int 4, false),
  (35, .invokevirtual 80, 22, 120, 2, .null, false),
  (38, .ireturn, 0, 0, 0, .null, false),
  (39, .lconst 0, 24, 0, 0, .long 0, false),
  (40, .lstore_n 2, 25, 2, 0, .null, false),
  (41, .iconst 0, 26, 0, 0, .int 0, false),
  (42, .istore 4, 27, 4, 0, .null, false),
  (44, .iload 4, 28, 4, 0, .null, true),
  (46, .aload_n 0, 29, 0, 0, .null, false),
  (47, .getfield 7, 30, 6, 0, .null, false),
  (50, .iload_n 1, 31, 1, 0, .null, false),
  (51, .iaload, 32, 0, 0, .null, false)]
def q_X6_mean_1 : List mm_N := [(52, .if_icmp .ge 25, 33, 47, 0, .null, false),
  (55, .lload_n 2, 34, 2, 0, .null, false),
  (56, .aload_n 0, 35, 0, 0, .null, false),
  (57, .getfield 13, 36, 6, 1, .null, false),
  (60, .bipush 40, 37, 0, 0, .int 40, false),
  (62, .iload_n 1, 38, 1, 0, .null, false),
  (63, .imul, 39, 0, 0, .null, false),
  (64, .iload 4, 40, 4, 0, .null, false),
  (66, .iadd, 41, 0, 0, .null, false),
  (67, .iaload, 42, 0, 0, .null, false),
  (68, .i2l, 43, 0, 0, .null, false),
  (69, .ladd, 44, 0, 0, .null, false),
  (70, .lstore_n 2, 45, 2, 0, .null, false),
  (71, .iinc 4 1, 46, 4, 0, .int 1, false),
  (74, .goto (-30), 0, 27, 0, .null, false),
  (77, .aload_n 0, 48, 0, 0, .null, false),
  (78, .lload_n 2, 49, 2, 0, .null, false),
  (79, .aload_n 0, 50, 0, 0, .null, false),
  (80, .getfield 7, 51, 6, 0, .null, false),
  (83, .iload_n 1, 52, 1, 0, .null, false),
  (84, .iaload, 53, 0, 0, .null, false),
  (85, .i2l, 54, 0, 0, .null, false),
  (86, .ldiv, 55, 0, 0, .null, false),
  (87, .l2i, 56, 0, 0, .null, false),
  (88, .invokevirtual 84, 57, 121, 2, .null, false),
  (91, .ireturn, 0, 0, 0, .null, false)]
def q_X6_mean : List (List mm_N) := [q_X6_mean_0, q_X6_mean_1]
def q_X6_text_0 : List mm_N := [(0, .iload_n 1, 1, 1, 0, .null, false),
  (1, .invokestatic 90, 2, 123, 1, .null, false),
  (4, .ifCond .eq 9, 3, 6, 0, .null, false),
  (7, .iload_n 2, 4, 2, 0, .null, false),
  (8, .bipush 80, 5, 0, 0, .int 80, false),
  (10, .if_icmp .le 5, 6, 8, 0, .null, false),
  (13, .iconst (-1), 7, 0, 0, .int (-1), true),
  (14, .ireturn, 0, 0, 0, .null, false),
  (15, .iload_n 2, 9, 2, 0, .null, false),
  (16, .ifCond .ge 9, 10, 14, 0, .null, false),
  (19, .aload_n 0, 11, 0, 0, .null, false),
  (20, .iconst 5, 12, 0, 0, .int 5, false),
  (21, .invokevirtual 80, 13, 120, 2, .null, false),
  (24, .ireturn, 0, 0, 0, .null, false),
  (25, .aload_n 0, 15, 0, 0, .null, false),
  (26, .getfield 16, 16, 6, 2, .null, false),
  (29, .iload_n 1, 17, 1, 0, .null, false),
  (30, .iload_n 2, 18, 2, 0, .null, false),
  (31, .iastore, 19, 0, 0, .null, false),
  (32, .iconst 0, 20, 0, 0, .int 0, false),
  (33, .istore_n 3, 21, 3, 0, .null, false),
  (34, .iload_n 3, 22, 3, 0, .null, true),
  (35, .bipush 80, 23, 0, 0, .int 80, false),
  (37, .if_icmp .ge 22, 24, 35, 0, .null, false),
  (40, .aload_n 0, 25, 0, 0, .null, false),
  (41, .getfield 19, 26, 6, 3, .null, false),
  (44, .bipush 80, 27, 0, 0, .int 80, false),
  (46, .iload_n 1, 28, 1, 0, .null, false),
  (47, .imul, 29, 0, 0, .null, false),
  (48, .iload_n 3, 30, 3, 0, .null, false),
  (49, .iadd, 31, 0, 0, .null, false),
  (50, .bipush 32, 32, 0, 0, .int 32, false)]
def q_X6_text_1 : List mm_N := [(52, .iastore, 33, 0, 0, .null, false),
  (53, .iinc 3 1, 34, 3, 0, .int 1, false),
  (56, .goto (-22), 0, 21, 0, .null, false),
  (59, .iload_n 2, 36, 2, 0, .null, false),
  (60, .ireturn, 0, 0, 0, .null, false)]
def q_X6_text : List (List mm_N) := [q_X6_text_0, q_X6_text_1]
def q_X6_put_0 : List mm_N := [(0, .iload_n 1, 1, 1, 0, .null, false),
  (1, .invokestatic 90, 2, 123, 1, .null, false),
  (4, .ifCond .ne 5, 3, 5, 0, .null, false),
  (7, .iconst (-1), 4, 0, 0, .int (-1), false),
  (8, .ireturn, 0, 0, 0, .null, false),
  (9, .aload_n 0, 6, 0, 0, .null, false),
  (10, .getfield 16, 7, 6, 2, .null, false),
  (13, .iload_n 1, 8, 1, 0, .null, false),
  (14, .iaload, 9, 0, 0, .null, false),
  (15, .ifCond .ge 9, 10, 14, 0, .null, false),
  (18, .aload_n 0, 11, 0, 0, .null, false),
  (19, .iconst 1, 12, 0, 0, .int 1, false),
  (20, .invokevirtual 80, 13, 120, 2, .null, false),
  (23, .ireturn, 0, 0, 0, .null, false),
  (24, .iload_n 2, 15, 2, 0, .null, false),
  (25, .iconst 0, 16, 0, 0, .int 0, false),
  (26, .aload_n 0, 17, 0, 0, .null, false),
  (27, .getfield 16, 18, 6, 2, .null, false),
  (30, .iload_n 1, 19, 1, 0, .null, false),
  (31, .iaload, 20, 0, 0, .null, false),
  (32, .iconst 1, 21, 0, 0, .int 1, false),
  (33, .isub, 22, 0, 0, .null, false),
  (34, .invokestatic 72, 23, 117, 3, .null, false),
  (37, .ifCond .ne 9, 24, 28, 0, .null, false),
  (40, .aload_n 0, 25, 0, 0, .null, false),
  (41, .iconst 2, 26, 0, 0, .int 2, false),
  (42, .invokevirtual 80, 27, 120, 2, .null, false),
  (45, .ireturn, 0, 0, 0, .null, false),
  (46, .aload_n 0, 29, 0, 0, .null, false),
  (47, .getfield 19, 30, 6, 3, .null, false),
  (50, .bipush 80, 31, 0, 0, .int 80, false),
  (52, .iload_n 1, 32, 1, 0, .null, false)]
def q_X6_put_1 : List mm_N := [(53, .imul, 33, 0, 0, .null, false),
  (54, .iload_n 2, 34, 2, 0, .null, false),
  (55, .iadd, 35, 0, 0, .null, false),
  (56, .iaload, 36, 0, 0, .null, false),
  (57, .istore 4, 37, 4, 0, .null, false),
  (59, .aload_n 0, 38, 0, 0, .null, false),
  (60, .getfield 19, 39, 6, 3, .null, false),
  (63, .bipush 80, 40, 0, 0, .int 80, false),
  (65, .iload_n 1, 41, 1, 0, .null, false),
  (66, .imul, 42, 0, 0, .null, false),
  (67, .iload_n 2, 43, 2, 0, .null, false),
  (68, .iadd, 44, 0, 0, .null, false),
  (69, .iload_n 3, 45, 3, 0, .null, false),
  (70, .bipush 24, 46, 0, 0, .int 24, false),
  (72, .ishl, 47, 0, 0, .null, false),
  (73, .bipush 24, 48, 0, 0, .int 24, false),
  (75, .ishr, 49, 0, 0, .null, false),
  (76, .iastore, 50, 0, 0, .null, false),
  (77, .sipush 1000, 51, 0, 0, .int 1000, false),
  (80, .iload 4, 52, 4, 0, .null, false),
  (82, .iadd, 53, 0, 0, .null, false),
  (83, .ireturn, 0, 0, 0, .null, false)]
def q_X6_put : List (List mm_N) := [q_X6_put_0, q_X6_put_1]
def q_X6_byteAt_0 : List mm_N := [(0, .iload_n 2, 1, 2, 0, .null, false),
  (1, .aload_n 0, 2, 0, 0, .null, false),
  (2, .getfield 16, 3, 6, 2, .null, false),
  (5, .iload_n 1, 4, 1, 0, .null, false),
  (6, .iaload, 5, 0, 0, .null, false),
  (7, .if_icmp .ge 17, 6, 15, 0, .null, false),
  (10, .aload_n 0, 7, 0, 0, .null, false),
  (11, .getfield 19, 8, 6, 3, .null, false),
  (14, .bipush 80, 9, 0, 0, .int 80, false),
  (16, .iload_n 1, 10, 1, 0, .null, false),
  (17, .imul, 11, 0, 0, .null, false),
  (18, .iload_n 2, 12, 2, 0, .null, false),
  (19, .iadd, 13, 0, 0, .null, false),
  (20, .iaload, 14, 0, 0, .null, false),
  (21, .goto 5, 0, 16, 0, .null, false),
  (24, .bipush (-9), 16, 0, 0, .int (-9), false),
  (26, .ireturn, 0, 0, 0, .null, true)]
def q_X6_byteAt : List (List mm_N) := [q_X6_byteAt_0]
def q_X6_kindOf_0 : List mm_N := [(0, .iload_n 0, 1, 0, 0, .null, false),
  (1, .bipush 114, 2, 0, 0, .int 114, false),
  (3, .if_icmp .ne 7, 3, 5, 0, .null, false),
  (6, .iconst 0, 4, 0, 0, .int 0, false),
  (7, .goto 55, 0, 31, 0, .null, false),
  (10, .iload_n 0, 6, 0, 0, .null, false),
  (11, .bipush 98, 7, 0, 0, .int 98, false),
  (13, .if_icmp .ne 7, 8, 10, 0, .null, false),
  (16, .iconst 1, 9, 0, 0, .int 1, false),
  (17, .goto 45, 0, 31, 0, .null, false),
  (20, .iload_n 0, 11, 0, 0, .null, false),
  (21, .bipush 102, 12, 0, 0, .int 102, false),
  (23, .if_icmp .ne 7, 13, 15, 0, .null, false),
  (26, .iconst 2, 14, 0, 0, .int 2, false),
  (27, .goto 35, 0, 31, 0, .null, false),
  (30, .iload_n 0, 16, 0, 0, .null, false),
  (31, .bipush 117, 17, 0, 0, .int 117, false),
  (33, .if_icmp .ne 7, 18, 20, 0, .null, false),
  (36, .iconst 3, 19, 0, 0, .int 3, false),
  (37, .goto 25, 0, 31, 0, .null, false),
  (40, .iload_n 0, 21, 0, 0, .null, false),
  (41, .bipush 99, 22, 0, 0, .int 99, false),
  (43, .if_icmp .ne 7, 23, 25, 0, .null, false),
  (46, .iconst 4, 24, 0, 0, .int 4, false),
  (47, .goto 15, 0, 31, 0, .null, false),
  (50, .iload_n 0, 26, 0, 0, .null, false),
  (51, .bipush 107, 27, 0, 0, .int 107, false),
  (53, .if_icmp .ne 7, 28, 30, 0, .null, false),
  (56, .iconst 5, 29, 0, 0, .int 5, false),
  (57, .goto 5, 0, 31, 0, .null, false),
  (60, .bipush (-9), 31, 0, 0, .int (-9), false),
  (62, .ireturn, 0, 0, 0, .null, true)]
def q_X6_kindOf : List (List mm_N) := [q_X6_kindOf_0]
def q_X6_figure_0 : List mm_N := [(0, .aload_n 0, 1, 0, 0, .null, false),
  (1, .iload_n 1, 2, 1, 0, .null, false),
  (2, .iload_n 2, 3, 2, 0, .null, false),
  (3, .invokevirtual 93, 4, 133, 3, .null, false),
  (6, .bipush 48, 5, 0, 0, .int 48, false),
  (8, .isub, 6, 0, 0, .null, false),
  (9, .istore 4, 7, 4, 0, .null, false),
  (11, .iload 4, 8, 4, 0, .null, false),
  (13, .iconst 0, 9, 0, 0, .int 0, false),
  (14, .iload_n 3, 10, 3, 0, .null, false),
  (15, .invokestatic 72, 11, 117, 3, .null, false),
  (18, .ifCond .eq 8, 12, 14, 0, .null, false),
  (21, .iload 4, 13, 4, 0, .null, false),
  (23, .goto 5, 0, 15, 0, .null, false),
  (26, .bipush (-9), 15, 0, 0, .int (-9), false),
  (28, .ireturn, 0, 0, 0, .null, true)]
def q_X6_figure : List (List mm_N) := [q_X6_figure_0]
def q_X6_faults_0 : List mm_N := [(0, .aload_n 0, 1, 0, 0, .null, false),
  (1, .aload_n 0, 2, 0, 0, .null, false),
  (2, .getfield 97, 3, 6, 22, .null, false),
  (5, .bipush (-9), 4, 0, 0, .int (-9), false),
  (7, .if_icmp .ne 7, 5, 7, 0, .null, false),
  (10, .iload_n 1, 6, 1, 0, .null, false),
  (11, .goto 7, 0, 9, 0, .null, false),
  (14, .aload_n 0, 8, 0, 0, .null, false),
  (15, .getfield 97, 9, 6, 22, .null, false),
  (18, .putfield 97, 10, 6, 22, .null, true),
  (21, .return_, 0, 0, 0, .null, false)]
def q_X6_faults : List (List mm_N) := [q_X6_faults_0]
def q_X6_readsCitation_0 : List mm_N := [(0, .aload_n 0, 1, 0, 0, .null, false),
  (1, .iload_n 1, 2, 1, 0, .null, false),
  (2, .iload_n 2, 3, 2, 0, .null, false),
  (3, .invokevirtual 93, 4, 133, 3, .null, false),
  (6, .istore 4, 5, 4, 0, .null, false),
  (8, .aload_n 0, 6, 0, 0, .null, false),
  (9, .getfield 59, 7, 6, 23, .null, false),
  (12, .iconst 3, 8, 0, 0, .int 3, false),
  (13, .bipush (-9), 9, 0, 0, .int (-9), false),
  (15, .iastore, 10, 0, 0, .null, false),
  (16, .aload_n 0, 11, 0, 0, .null, false),
  (17, .getfield 59, 12, 6, 23, .null, false),
  (20, .iconst 4, 13, 0, 0, .int 4, false),
  (21, .iconst 0, 14, 0, 0, .int 0, false),
  (22, .iastore, 15, 0, 0, .null, false),
  (23, .aload_n 0, 16, 0, 0, .null, false),
  (24, .iload_n 2, 17, 2, 0, .null, false),
  (25, .putfield 100, 18, 6, 21, .null, false),
  (28, .iload 4, 19, 4, 0, .null, false),
  (30, .bipush 43, 20, 0, 0, .int 43, false),
  (32, .if_icmp .eq 10, 21, 24, 0, .null, false),
  (35, .iload 4, 22, 4, 0, .null, false),
  (37, .bipush 45, 23, 0, 0, .int 45, false),
  (39, .if_icmp .ne 80, 24, 72, 0, .null, false),
  (42, .aload_n 0, 25, 0, 0, .null, true),
  (43, .iload_n 1, 26, 1, 0, .null, false),
  (44, .iload_n 2, 27, 2, 0, .null, false),
  (45, .iconst 1, 28, 0, 0, .int 1, false),
  (46, .iadd, 29, 0, 0, .null, false),
  (47, .iload_n 3, 30, 3, 0, .null, false),
  (48, .iconst 1, 31, 0, 0, .int 1, false),
  (49, .isub, 32, 0, 0, .null, false)]
def q_X6_readsCitation_1 : List mm_N := [(50, .invokevirtual 103, 33, 135, 4, .null, false),
  (53, .istore 5, 34, 5, 0, .null, false),
  (55, .iload 5, 35, 5, 0, .null, false),
  (57, .bipush (-9), 36, 0, 0, .int (-9), false),
  (59, .if_icmp .eq 19, 37, 46, 0, .null, false),
  (62, .aload_n 0, 38, 0, 0, .null, false),
  (63, .getfield 62, 39, 6, 24, .null, false),
  (66, .iload 5, 40, 5, 0, .null, false),
  (68, .iaload, 41, 0, 0, .null, false),
  (69, .aload_n 0, 42, 0, 0, .null, false),
  (70, .getfield 59, 43, 6, 23, .null, false),
  (73, .iconst 1, 44, 0, 0, .int 1, false),
  (74, .iaload, 45, 0, 0, .null, false),
  (75, .if_icmp .lt 11, 46, 52, 0, .null, false),
  (78, .aload_n 0, 47, 0, 0, .null, true),
  (79, .iload_n 2, 48, 2, 0, .null, false),
  (80, .iconst 1, 49, 0, 0, .int 1, false),
  (81, .iadd, 50, 0, 0, .null, false),
  (82, .invokevirtual 107, 51, 136, 2, .null, false),
  (85, .return_, 0, 0, 0, .null, false),
  (86, .aload_n 0, 53, 0, 0, .null, false),
  (87, .getfield 59, 54, 6, 23, .null, false),
  (90, .iconst 3, 55, 0, 0, .int 3, false),
  (91, .iload 5, 56, 5, 0, .null, false),
  (93, .iastore, 57, 0, 0, .null, false),
  (94, .aload_n 0, 58, 0, 0, .null, false),
  (95, .getfield 59, 59, 6, 23, .null, false),
  (98, .iconst 4, 60, 0, 0, .int 4, false),
  (99, .iload 4, 61, 4, 0, .null, false),
  (101, .bipush 43, 62, 0, 0, .int 43, false),
  (103, .if_icmp .ne 7, 63, 65, 0, .null, false),
  (106, .iconst 1, 64, 0, 0, .int 1, false)]
def q_X6_readsCitation_2 : List mm_N := [(107, .goto 4, 0, 66, 0, .null, false),
  (110, .iconst (-1), 66, 0, 0, .int (-1), false),
  (111, .iastore, 67, 0, 0, .null, true),
  (112, .aload_n 0, 68, 0, 0, .null, false),
  (113, .iload_n 2, 69, 2, 0, .null, false),
  (114, .iconst 2, 70, 0, 0, .int 2, false),
  (115, .iadd, 71, 0, 0, .null, false),
  (116, .putfield 100, 72, 6, 21, .null, false),
  (119, .aload_n 0, 73, 0, 0, .null, true),
  (120, .iload_n 1, 74, 1, 0, .null, false),
  (121, .aload_n 0, 75, 0, 0, .null, false),
  (122, .getfield 100, 76, 6, 21, .null, false),
  (125, .invokevirtual 93, 77, 133, 3, .null, false),
  (128, .bipush 46, 78, 0, 0, .int 46, false),
  (130, .if_icmp .eq 11, 79, 83, 0, .null, false),
  (133, .aload_n 0, 80, 0, 0, .null, false),
  (134, .aload_n 0, 81, 0, 0, .null, false),
  (135, .getfield 100, 82, 6, 21, .null, false),
  (138, .invokevirtual 107, 83, 136, 2, .null, false),
  (141, .aload_n 0, 84, 0, 0, .null, true),
  (142, .dup, 85, 0, 0, .null, false),
  (143, .getfield 100, 86, 6, 21, .null, false),
  (146, .iconst 1, 87, 0, 0, .int 1, false),
  (147, .iadd, 88, 0, 0, .null, false),
  (148, .putfield 100, 89, 6, 21, .null, false),
  (151, .return_, 0, 0, 0, .null, false)]
def q_X6_readsCitation : List (List mm_N) := [q_X6_readsCitation_0, q_X6_readsCitation_1, q_X6_readsCitation_2]
def q_X6_readsItem_0 : List mm_N := [(0, .aload_n 0, 1, 0, 0, .null, false),
  (1, .getfield 59, 2, 6, 23, .null, false),
  (4, .iconst 0, 3, 0, 0, .int 0, false),
  (5, .aload_n 0, 4, 0, 0, .null, false),
  (6, .iload_n 1, 5, 1, 0, .null, false),
  (7, .iload_n 2, 6, 2, 0, .null, false),
  (8, .invokevirtual 93, 7, 133, 3, .null, false),
  (11, .invokestatic 111, 8, 134, 1, .null, false),
  (14, .iastore, 9, 0, 0, .null, false),
  (15, .aload_n 0, 10, 0, 0, .null, false),
  (16, .getfield 59, 11, 6, 23, .null, false),
  (19, .iconst 1, 12, 0, 0, .int 1, false),
  (20, .aload_n 0, 13, 0, 0, .null, false),
  (21, .iload_n 1, 14, 1, 0, .null, false),
  (22, .iload_n 2, 15, 2, 0, .null, false),
  (23, .iconst 1, 16, 0, 0, .int 1, false),
  (24, .iadd, 17, 0, 0, .null, false),
  (25, .bipush 9, 18, 0, 0, .int 9, false),
  (27, .invokevirtual 103, 19, 135, 4, .null, false),
  (30, .iastore, 20, 0, 0, .null, false),
  (31, .aload_n 0, 21, 0, 0, .null, false),
  (32, .getfield 59, 22, 6, 23, .null, false),
  (35, .iconst 2, 23, 0, 0, .int 2, false),
  (36, .aload_n 0, 24, 0, 0, .null, false),
  (37, .iload_n 1, 25, 1, 0, .null, false),
  (38, .iload_n 2, 26, 2, 0, .null, false),
  (39, .iconst 2, 27, 0, 0, .int 2, false),
  (40, .iadd, 28, 0, 0, .null, false),
  (41, .iconst 1, 29, 0, 0, .int 1, false),
  (42, .invokevirtual 103, 30, 135, 4, .null, false),
  (45, .iastore, 31, 0, 0, .null, false),
  (46, .aload_n 0, 32, 0, 0, .null, false)]
def q_X6_readsItem_1 : List mm_N := [(47, .getfield 59, 33, 6, 23, .null, false),
  (50, .iconst 0, 34, 0, 0, .int 0, false),
  (51, .iaload, 35, 0, 0, .null, false),
  (52, .bipush (-9), 36, 0, 0, .int (-9), false),
  (54, .if_icmp .eq 9, 37, 40, 0, .null, false),
  (57, .iload_n 3, 38, 3, 0, .null, false),
  (58, .bipush 9, 39, 0, 0, .int 9, false),
  (60, .if_icmp .ne 11, 40, 44, 0, .null, false),
  (63, .aload_n 0, 41, 0, 0, .null, true),
  (64, .iload_n 2, 42, 2, 0, .null, false),
  (65, .invokevirtual 107, 43, 136, 2, .null, false),
  (68, .goto 54, 0, 75, 0, .null, false),
  (71, .aload_n 0, 45, 0, 0, .null, false),
  (72, .getfield 59, 46, 6, 23, .null, false),
  (75, .iconst 1, 47, 0, 0, .int 1, false),
  (76, .iaload, 48, 0, 0, .null, false),
  (77, .bipush (-9), 49, 0, 0, .int (-9), false),
  (79, .if_icmp .ne 13, 50, 56, 0, .null, false),
  (82, .aload_n 0, 51, 0, 0, .null, false),
  (83, .iload_n 2, 52, 2, 0, .null, false),
  (84, .iconst 1, 53, 0, 0, .int 1, false),
  (85, .iadd, 54, 0, 0, .null, false),
  (86, .invokevirtual 107, 55, 136, 2, .null, false),
  (89, .goto 33, 0, 75, 0, .null, false),
  (92, .aload_n 0, 57, 0, 0, .null, false),
  (93, .getfield 59, 58, 6, 23, .null, false),
  (96, .iconst 2, 59, 0, 0, .int 2, false),
  (97, .iaload, 60, 0, 0, .null, false),
  (98, .bipush (-9), 61, 0, 0, .int (-9), false),
  (100, .if_icmp .ne 13, 62, 68, 0, .null, false),
  (103, .aload_n 0, 63, 0, 0, .null, false),
  (104, .iload_n 2, 64, 2, 0, .null, false)]
def q_X6_readsItem_2 : List mm_N := [(105, .iconst 2, 65, 0, 0, .int 2, false),
  (106, .iadd, 66, 0, 0, .null, false),
  (107, .invokevirtual 107, 67, 136, 2, .null, false),
  (110, .goto 12, 0, 75, 0, .null, false),
  (113, .aload_n 0, 69, 0, 0, .null, false),
  (114, .iload_n 1, 70, 1, 0, .null, false),
  (115, .iload_n 2, 71, 2, 0, .null, false),
  (116, .iconst 3, 72, 0, 0, .int 3, false),
  (117, .iadd, 73, 0, 0, .null, false),
  (118, .iload_n 3, 74, 3, 0, .null, false),
  (119, .invokevirtual 114, 75, 137, 4, .null, false),
  (122, .aload_n 0, 76, 0, 0, .null, true),
  (123, .getfield 59, 77, 6, 23, .null, false),
  (126, .iconst 5, 78, 0, 0, .int 5, false),
  (127, .iconst 0, 79, 0, 0, .int 0, false),
  (128, .iastore, 80, 0, 0, .null, false),
  (129, .bipush (-9), 81, 0, 0, .int (-9), false),
  (131, .istore 4, 82, 4, 0, .null, false),
  (133, .aload_n 0, 83, 0, 0, .null, true),
  (134, .getfield 97, 84, 6, 22, .null, false),
  (137, .bipush (-9), 85, 0, 0, .int (-9), false),
  (139, .if_icmp .ne 89, 86, 132, 0, .null, false),
  (142, .aload_n 0, 87, 0, 0, .null, false),
  (143, .iload_n 1, 88, 1, 0, .null, false),
  (144, .aload_n 0, 89, 0, 0, .null, false),
  (145, .getfield 100, 90, 6, 21, .null, false),
  (148, .invokevirtual 93, 91, 133, 3, .null, false),
  (151, .bipush 48, 92, 0, 0, .int 48, false),
  (153, .bipush 57, 93, 0, 0, .int 57, false),
  (155, .invokestatic 72, 94, 117, 3, .null, false),
  (158, .ifCond .eq 70, 95, 132, 0, .null, false),
  (161, .aload_n 0, 96, 0, 0, .null, false)]
def q_X6_readsItem_3 : List mm_N := [(162, .iload_n 1, 97, 1, 0, .null, false),
  (163, .aload_n 0, 98, 0, 0, .null, false),
  (164, .getfield 100, 99, 6, 21, .null, false),
  (167, .iconst 4, 100, 0, 0, .int 4, false),
  (168, .invokevirtual 103, 101, 135, 4, .null, false),
  (171, .istore 5, 102, 5, 0, .null, false),
  (173, .iload 5, 103, 5, 0, .null, false),
  (175, .bipush (-9), 104, 0, 0, .int (-9), false),
  (177, .if_icmp .eq 10, 105, 108, 0, .null, false),
  (180, .iload 5, 106, 5, 0, .null, false),
  (182, .iload 4, 107, 4, 0, .null, false),
  (184, .if_icmp .gt 14, 108, 113, 0, .null, false),
  (187, .aload_n 0, 109, 0, 0, .null, true),
  (188, .aload_n 0, 110, 0, 0, .null, false),
  (189, .getfield 100, 111, 6, 21, .null, false),
  (192, .invokevirtual 107, 112, 136, 2, .null, false),
  (195, .goto 30, 0, 131, 0, .null, false),
  (198, .aload_n 0, 114, 0, 0, .null, false),
  (199, .getfield 59, 115, 6, 23, .null, false),
  (202, .iconst 5, 116, 0, 0, .int 5, false),
  (203, .dup2, 117, 0, 0, .null, false),
  (204, .iaload, 118, 0, 0, .null, false),
  (205, .iconst 1, 119, 0, 0, .int 1, false),
  (206, .iload 5, 120, 5, 0, .null, false),
  (208, .ishl, 121, 0, 0, .null, false),
  (209, .ior, 122, 0, 0, .null, false),
  (210, .iastore, 123, 0, 0, .null, false),
  (211, .iload 5, 124, 5, 0, .null, false),
  (213, .istore 4, 125, 4, 0, .null, false),
  (215, .aload_n 0, 126, 0, 0, .null, false),
  (216, .dup, 127, 0, 0, .null, false),
  (217, .getfield 100, 128, 6, 21, .null, false)]
def q_X6_readsItem_4 : List mm_N := [(220, .iconst 1, 129, 0, 0, .int 1, false),
  (221, .iadd, 130, 0, 0, .null, false),
  (222, .putfield 100, 131, 6, 21, .null, false),
  (225, .goto (-92), 0, 82, 0, .null, true),
  (228, .return_, 0, 0, 0, .null, true)]
def q_X6_readsItem : List (List mm_N) := [q_X6_readsItem_0, q_X6_readsItem_1, q_X6_readsItem_2, q_X6_readsItem_3, q_X6_readsItem_4]
def q_X6_reads_0 : List mm_N := [(0, .aload_n 0, 1, 0, 0, .null, false),
  (1, .bipush (-9), 2, 0, 0, .int (-9), false),
  (3, .putfield 97, 3, 6, 22, .null, false),
  (6, .iconst 0, 4, 0, 0, .int 0, false),
  (7, .istore_n 3, 5, 3, 0, .null, false),
  (8, .iconst 0, 6, 0, 0, .int 0, false),
  (9, .istore 4, 7, 4, 0, .null, false),
  (11, .aload_n 0, 8, 0, 0, .null, true),
  (12, .getfield 97, 9, 6, 22, .null, false),
  (15, .bipush (-9), 10, 0, 0, .int (-9), false),
  (17, .if_icmp .ne 121, 11, 78, 0, .null, false),
  (20, .iload_n 3, 12, 3, 0, .null, false),
  (21, .aload_n 0, 13, 0, 0, .null, false),
  (22, .getfield 16, 14, 6, 2, .null, false),
  (25, .iload_n 1, 15, 1, 0, .null, false),
  (26, .iaload, 16, 0, 0, .null, false),
  (27, .if_icmp .ge 111, 17, 78, 0, .null, false),
  (30, .aload_n 0, 18, 0, 0, .null, false),
  (31, .iload_n 1, 19, 1, 0, .null, false),
  (32, .iload_n 3, 20, 3, 0, .null, false),
  (33, .invokevirtual 93, 21, 133, 3, .null, false),
  (36, .bipush 32, 22, 0, 0, .int 32, false),
  (38, .if_icmp .ne 9, 23, 25, 0, .null, false),
  (41, .iinc 3 1, 24, 3, 0, .int 1, false),
  (44, .goto (-33), 0, 7, 0, .null, false),
  (47, .aload_n 0, 26, 0, 0, .null, false),
  (48, .iload_n 1, 27, 1, 0, .null, false),
  (49, .iload_n 3, 28, 3, 0, .null, false),
  (50, .iload 4, 29, 4, 0, .null, false),
  (52, .invokevirtual 118, 30, 138, 4, .null, false),
  (55, .aload_n 0, 31, 0, 0, .null, false),
  (56, .getfield 97, 32, 6, 22, .null, false)]
def q_X6_reads_1 : List mm_N := [(59, .bipush (-9), 33, 0, 0, .int (-9), false),
  (61, .if_icmp .ne (-50), 34, 7, 0, .null, false),
  (64, .aload_n 0, 35, 0, 0, .null, false),
  (65, .getfield 62, 36, 6, 24, .null, false),
  (68, .iload 4, 37, 4, 0, .null, false),
  (70, .aload_n 0, 38, 0, 0, .null, false),
  (71, .getfield 59, 39, 6, 23, .null, false),
  (74, .iconst 1, 40, 0, 0, .int 1, false),
  (75, .iaload, 41, 0, 0, .null, false),
  (76, .iastore, 42, 0, 0, .null, false),
  (77, .iload_n 2, 43, 2, 0, .null, false),
  (78, .ifCond .eq 49, 44, 73, 0, .null, false),
  (81, .aload_n 0, 45, 0, 0, .null, false),
  (82, .iload 4, 46, 4, 0, .null, false),
  (84, .putfield 121, 47, 6, 10, .null, false),
  (87, .aload_n 0, 48, 0, 0, .null, false),
  (88, .aload_n 0, 49, 0, 0, .null, false),
  (89, .getfield 59, 50, 6, 23, .null, false),
  (92, .iconst 0, 51, 0, 0, .int 0, false),
  (93, .iaload, 52, 0, 0, .null, false),
  (94, .aload_n 0, 53, 0, 0, .null, false),
  (95, .getfield 59, 54, 6, 23, .null, false),
  (98, .iconst 1, 55, 0, 0, .int 1, false),
  (99, .iaload, 56, 0, 0, .null, false),
  (100, .aload_n 0, 57, 0, 0, .null, false),
  (101, .getfield 59, 58, 6, 23, .null, false),
  (104, .iconst 2, 59, 0, 0, .int 2, false),
  (105, .iaload, 60, 0, 0, .null, false),
  (106, .aload_n 0, 61, 0, 0, .null, false),
  (107, .getfield 59, 62, 6, 23, .null, false),
  (110, .iconst 3, 63, 0, 0, .int 3, false),
  (111, .iaload, 64, 0, 0, .null, false)]
def q_X6_reads_2 : List mm_N := [(112, .aload_n 0, 65, 0, 0, .null, false),
  (113, .getfield 59, 66, 6, 23, .null, false),
  (116, .iconst 4, 67, 0, 0, .int 4, false),
  (117, .iaload, 68, 0, 0, .null, false),
  (118, .aload_n 0, 69, 0, 0, .null, false),
  (119, .getfield 59, 70, 6, 23, .null, false),
  (122, .iconst 5, 71, 0, 0, .int 5, false),
  (123, .iaload, 72, 0, 0, .null, false),
  (124, .invokevirtual 124, 73, 141, 7, .null, false),
  (127, .iinc 4 1, 74, 4, 0, .int 1, true),
  (130, .aload_n 0, 75, 0, 0, .null, false),
  (131, .getfield 100, 76, 6, 21, .null, false),
  (134, .istore_n 3, 77, 3, 0, .null, false),
  (135, .goto (-124), 0, 7, 0, .null, false),
  (138, .iload 4, 79, 4, 0, .null, true),
  (140, .ireturn, 0, 0, 0, .null, false)]
def q_X6_reads : List (List mm_N) := [q_X6_reads_0, q_X6_reads_1, q_X6_reads_2]
def q_X6_fault_0 : List mm_N := [(0, .iload_n 1, 1, 1, 0, .null, false),
  (1, .invokestatic 90, 2, 123, 1, .null, false),
  (4, .ifCond .ne 5, 3, 5, 0, .null, false),
  (7, .iconst (-1), 4, 0, 0, .int (-1), false),
  (8, .ireturn, 0, 0, 0, .null, false),
  (9, .aload_n 0, 6, 0, 0, .null, false),
  (10, .getfield 16, 7, 6, 2, .null, false),
  (13, .iload_n 1, 8, 1, 0, .null, false),
  (14, .iaload, 9, 0, 0, .null, false),
  (15, .ifCond .ge 9, 10, 14, 0, .null, false),
  (18, .aload_n 0, 11, 0, 0, .null, false),
  (19, .iconst 1, 12, 0, 0, .int 1, false),
  (20, .invokevirtual 80, 13, 120, 2, .null, false),
  (23, .ireturn, 0, 0, 0, .null, false),
  (24, .aload_n 0, 15, 0, 0, .null, false),
  (25, .iload_n 1, 16, 1, 0, .null, false),
  (26, .iconst 0, 17, 0, 0, .int 0, false),
  (27, .invokevirtual 128, 18, 139, 3, .null, false),
  (30, .pop, 19, 0, 0, .null, false),
  (31, .aload_n 0, 20, 0, 0, .null, false),
  (32, .getfield 97, 21, 6, 22, .null, false),
  (35, .ireturn, 0, 0, 0, .null, false)]
def q_X6_fault : List (List mm_N) := [q_X6_fault_0]
def q_X6_adds_0 : List mm_N := [(0, .aload_n 0, 1, 0, 0, .null, false),
  (1, .getfield 32, 2, 6, 11, .null, false),
  (4, .aload_n 0, 3, 0, 0, .null, false),
  (5, .getfield 121, 4, 6, 10, .null, false),
  (8, .iload_n 1, 5, 1, 0, .null, false),
  (9, .iastore, 6, 0, 0, .null, false),
  (10, .aload_n 0, 7, 0, 0, .null, false),
  (11, .getfield 35, 8, 6, 12, .null, false),
  (14, .aload_n 0, 9, 0, 0, .null, false),
  (15, .getfield 121, 10, 6, 10, .null, false),
  (18, .iload_n 2, 11, 2, 0, .null, false),
  (19, .iastore, 12, 0, 0, .null, false),
  (20, .aload_n 0, 13, 0, 0, .null, false),
  (21, .getfield 38, 14, 6, 13, .null, false),
  (24, .aload_n 0, 15, 0, 0, .null, false),
  (25, .getfield 121, 16, 6, 10, .null, false),
  (28, .iload_n 3, 17, 3, 0, .null, false),
  (29, .iastore, 18, 0, 0, .null, false),
  (30, .aload_n 0, 19, 0, 0, .null, false),
  (31, .getfield 41, 20, 6, 14, .null, false),
  (34, .aload_n 0, 21, 0, 0, .null, false),
  (35, .getfield 121, 22, 6, 10, .null, false),
  (38, .iload 4, 23, 4, 0, .null, false),
  (40, .iastore, 24, 0, 0, .null, false),
  (41, .aload_n 0, 25, 0, 0, .null, false),
  (42, .getfield 44, 26, 6, 15, .null, false),
  (45, .aload_n 0, 27, 0, 0, .null, false),
  (46, .getfield 121, 28, 6, 10, .null, false),
  (49, .iload 5, 29, 5, 0, .null, false),
  (51, .iastore, 30, 0, 0, .null, false),
  (52, .aload_n 0, 31, 0, 0, .null, false),
  (53, .getfield 47, 32, 6, 16, .null, false)]
def q_X6_adds_1 : List mm_N := [(56, .aload_n 0, 33, 0, 0, .null, false),
  (57, .getfield 121, 34, 6, 10, .null, false),
  (60, .iload 6, 35, 6, 0, .null, false),
  (62, .iastore, 36, 0, 0, .null, false),
  (63, .aload_n 0, 37, 0, 0, .null, false),
  (64, .dup, 38, 0, 0, .null, false),
  (65, .getfield 121, 39, 6, 10, .null, false),
  (68, .iconst 1, 40, 0, 0, .int 1, false),
  (69, .iadd, 41, 0, 0, .null, false),
  (70, .putfield 121, 42, 6, 10, .null, false),
  (73, .return_, 0, 0, 0, .null, false)]
def q_X6_adds : List (List mm_N) := [q_X6_adds_0, q_X6_adds_1]
def q_X6_court_0 : List mm_N := [(0, .iload_n 1, 1, 1, 0, .null, false),
  (1, .invokestatic 90, 2, 123, 1, .null, false),
  (4, .ifCond .ne 5, 3, 5, 0, .null, false),
  (7, .iconst (-1), 4, 0, 0, .int (-1), false),
  (8, .ireturn, 0, 0, 0, .null, false),
  (9, .aload_n 0, 6, 0, 0, .null, false),
  (10, .getfield 16, 7, 6, 2, .null, false),
  (13, .iload_n 1, 8, 1, 0, .null, false),
  (14, .iaload, 9, 0, 0, .null, false),
  (15, .ifCond .ge 9, 10, 14, 0, .null, false),
  (18, .aload_n 0, 11, 0, 0, .null, false),
  (19, .iconst 1, 12, 0, 0, .int 1, false),
  (20, .invokevirtual 80, 13, 120, 2, .null, false),
  (23, .ireturn, 0, 0, 0, .null, false),
  (24, .aload_n 0, 15, 0, 0, .null, false),
  (25, .iload_n 1, 16, 1, 0, .null, false),
  (26, .iconst 0, 17, 0, 0, .int 0, false),
  (27, .invokevirtual 128, 18, 139, 3, .null, false),
  (30, .pop, 19, 0, 0, .null, false),
  (31, .aload_n 0, 20, 0, 0, .null, false),
  (32, .getfield 97, 21, 6, 22, .null, false),
  (35, .bipush (-9), 22, 0, 0, .int (-9), false),
  (37, .if_icmp .eq 6, 23, 25, 0, .null, false),
  (40, .bipush (-4), 24, 0, 0, .int (-4), false),
  (42, .ireturn, 0, 0, 0, .null, false),
  (43, .aload_n 0, 26, 0, 0, .null, false),
  (44, .iconst 0, 27, 0, 0, .int 0, false),
  (45, .putfield 121, 28, 6, 10, .null, false),
  (48, .aload_n 0, 29, 0, 0, .null, false),
  (49, .iload_n 1, 30, 1, 0, .null, false),
  (50, .iconst 1, 31, 0, 0, .int 1, false),
  (51, .invokevirtual 128, 32, 139, 3, .null, false)]
def q_X6_court_1 : List mm_N := [(54, .pop, 33, 0, 0, .null, false),
  (55, .iconst 0, 34, 0, 0, .int 0, false),
  (56, .istore_n 2, 35, 2, 0, .null, false),
  (57, .iload_n 2, 36, 2, 0, .null, true),
  (58, .iconst 3, 37, 0, 0, .int 3, false),
  (59, .if_icmp .ge 17, 38, 45, 0, .null, false),
  (62, .aload_n 0, 39, 0, 0, .null, false),
  (63, .getfield 50, 40, 6, 17, .null, false),
  (66, .iload_n 2, 41, 2, 0, .null, false),
  (67, .bipush (-9), 42, 0, 0, .int (-9), false),
  (69, .iastore, 43, 0, 0, .null, false),
  (70, .iinc 2 1, 44, 2, 0, .int 1, false),
  (73, .goto (-16), 0, 35, 0, .null, false),
  (76, .aload_n 0, 46, 0, 0, .null, false),
  (77, .getfield 121, 47, 6, 10, .null, false),
  (80, .ireturn, 0, 0, 0, .null, false)]
def q_X6_court : List (List mm_N) := [q_X6_court_0, q_X6_court_1]
def q_X6_isRuling_0 : List mm_N := [(0, .iload_n 1, 1, 1, 0, .null, false),
  (1, .iconst 0, 2, 0, 0, .int 0, false),
  (2, .aload_n 0, 3, 0, 0, .null, false),
  (3, .getfield 121, 4, 6, 10, .null, false),
  (6, .iconst 1, 5, 0, 0, .int 1, false),
  (7, .isub, 6, 0, 0, .null, false),
  (8, .invokestatic 72, 7, 117, 3, .null, false),
  (11, .ireturn, 0, 0, 0, .null, false)]
def q_X6_isRuling : List (List mm_N) := [q_X6_isRuling_0]
def q_X6_isSet_0 : List mm_N := [(0, .iload_n 1, 1, 1, 0, .null, false),
  (1, .iconst 0, 2, 0, 0, .int 0, false),
  (2, .iconst 1, 3, 0, 0, .int 1, false),
  (3, .aload_n 0, 4, 0, 0, .null, false),
  (4, .getfield 121, 5, 6, 10, .null, false),
  (7, .ishl, 6, 0, 0, .null, false),
  (8, .iconst 1, 7, 0, 0, .int 1, false),
  (9, .isub, 8, 0, 0, .null, false),
  (10, .invokestatic 72, 9, 117, 3, .null, false),
  (13, .ireturn, 0, 0, 0, .null, false)]
def q_X6_isSet : List (List mm_N) := [q_X6_isSet_0]
def q_X6_citing_0 : List mm_N := [(0, .iconst 0, 1, 0, 0, .int 0, false),
  (1, .istore_n 3, 2, 3, 0, .null, false),
  (2, .iconst 0, 3, 0, 0, .int 0, false),
  (3, .istore 4, 4, 4, 0, .null, false),
  (5, .iload 4, 5, 4, 0, .null, true),
  (7, .aload_n 0, 6, 0, 0, .null, false),
  (8, .getfield 121, 7, 6, 10, .null, false),
  (11, .if_icmp .ge 43, 8, 30, 0, .null, false),
  (14, .iload_n 3, 9, 3, 0, .null, false),
  (15, .aload_n 0, 10, 0, 0, .null, false),
  (16, .getfield 41, 11, 6, 14, .null, false),
  (19, .iload 4, 12, 4, 0, .null, false),
  (21, .iaload, 13, 0, 0, .null, false),
  (22, .iload_n 1, 14, 1, 0, .null, false),
  (23, .if_icmp .ne 22, 15, 25, 0, .null, false),
  (26, .iload_n 2, 16, 2, 0, .null, false),
  (27, .ifCond .eq 14, 17, 23, 0, .null, false),
  (30, .aload_n 0, 18, 0, 0, .null, false),
  (31, .getfield 44, 19, 6, 15, .null, false),
  (34, .iload 4, 20, 4, 0, .null, false),
  (36, .iaload, 21, 0, 0, .null, false),
  (37, .iload_n 2, 22, 2, 0, .null, false),
  (38, .if_icmp .ne 7, 23, 25, 0, .null, false),
  (41, .iconst 1, 24, 0, 0, .int 1, true),
  (42, .goto 4, 0, 26, 0, .null, false),
  (45, .iconst 0, 26, 0, 0, .int 0, true),
  (46, .iadd, 27, 0, 0, .null, true),
  (47, .istore_n 3, 28, 3, 0, .null, false),
  (48, .iinc 4 1, 29, 4, 0, .int 1, false),
  (51, .goto (-46), 0, 4, 0, .null, false),
  (54, .iload_n 3, 31, 3, 0, .null, false),
  (55, .ireturn, 0, 0, 0, .null, false)]
def q_X6_citing : List (List mm_N) := [q_X6_citing_0]
def q_X6_told_0 : List mm_N := [(0, .iload_n 2, 1, 2, 0, .null, false),
  (1, .ifCond .ne 12, 2, 7, 0, .null, false),
  (4, .aload_n 0, 3, 0, 0, .null, false),
  (5, .getfield 32, 4, 6, 11, .null, false),
  (8, .iload_n 1, 5, 1, 0, .null, false),
  (9, .iaload, 6, 0, 0, .null, false),
  (10, .goto 79, 0, 51, 0, .null, false),
  (13, .iload_n 2, 8, 2, 0, .null, false),
  (14, .iconst 1, 9, 0, 0, .int 1, false),
  (15, .if_icmp .ne 12, 10, 15, 0, .null, false),
  (18, .aload_n 0, 11, 0, 0, .null, false),
  (19, .getfield 35, 12, 6, 12, .null, false),
  (22, .iload_n 1, 13, 1, 0, .null, false),
  (23, .iaload, 14, 0, 0, .null, false),
  (24, .goto 65, 0, 51, 0, .null, false),
  (27, .iload_n 2, 16, 2, 0, .null, false),
  (28, .iconst 2, 17, 0, 0, .int 2, false),
  (29, .if_icmp .ne 12, 18, 23, 0, .null, false),
  (32, .aload_n 0, 19, 0, 0, .null, false),
  (33, .getfield 38, 20, 6, 13, .null, false),
  (36, .iload_n 1, 21, 1, 0, .null, false),
  (37, .iaload, 22, 0, 0, .null, false),
  (38, .goto 51, 0, 51, 0, .null, false),
  (41, .iload_n 2, 24, 2, 0, .null, false),
  (42, .iconst 3, 25, 0, 0, .int 3, false),
  (43, .if_icmp .ne 12, 26, 31, 0, .null, false),
  (46, .aload_n 0, 27, 0, 0, .null, false),
  (47, .getfield 41, 28, 6, 14, .null, false),
  (50, .iload_n 1, 29, 1, 0, .null, false),
  (51, .iaload, 30, 0, 0, .null, false),
  (52, .goto 37, 0, 51, 0, .null, false),
  (55, .iload_n 2, 32, 2, 0, .null, false)]
def q_X6_told_1 : List mm_N := [(56, .iconst 4, 33, 0, 0, .int 4, false),
  (57, .if_icmp .ne 12, 34, 39, 0, .null, false),
  (60, .aload_n 0, 35, 0, 0, .null, false),
  (61, .getfield 44, 36, 6, 15, .null, false),
  (64, .iload_n 1, 37, 1, 0, .null, false),
  (65, .iaload, 38, 0, 0, .null, false),
  (66, .goto 23, 0, 51, 0, .null, false),
  (69, .iload_n 2, 40, 2, 0, .null, false),
  (70, .iconst 5, 41, 0, 0, .int 5, false),
  (71, .if_icmp .ne 12, 42, 47, 0, .null, false),
  (74, .aload_n 0, 43, 0, 0, .null, false),
  (75, .getfield 47, 44, 6, 16, .null, false),
  (78, .iload_n 1, 45, 1, 0, .null, false),
  (79, .iaload, 46, 0, 0, .null, false),
  (80, .goto 9, 0, 51, 0, .null, false),
  (83, .aload_n 0, 48, 0, 0, .null, false),
  (84, .iload_n 1, 49, 1, 0, .null, false),
  (85, .iconst 0, 50, 0, 0, .int 0, false),
  (86, .invokevirtual 132, 51, 145, 3, .null, false),
  (89, .ireturn, 0, 0, 0, .null, true)]
def q_X6_told : List (List mm_N) := [q_X6_told_0, q_X6_told_1]
def q_X6_ruling_0 : List mm_N := [(0, .aload_n 0, 1, 0, 0, .null, false),
  (1, .iload_n 1, 2, 1, 0, .null, false),
  (2, .invokevirtual 135, 3, 143, 2, .null, false),
  (5, .ifCond .eq 26, 4, 16, 0, .null, false),
  (8, .iload_n 2, 5, 2, 0, .null, false),
  (9, .iconst 0, 6, 0, 0, .int 0, false),
  (10, .bipush 6, 7, 0, 0, .int 6, false),
  (12, .invokestatic 72, 8, 117, 3, .null, false),
  (15, .ifCond .eq 16, 9, 16, 0, .null, false),
  (18, .aload_n 0, 10, 0, 0, .null, false),
  (19, .aload_n 0, 11, 0, 0, .null, false),
  (20, .iload_n 1, 12, 1, 0, .null, false),
  (21, .iload_n 2, 13, 2, 0, .null, false),
  (22, .invokevirtual 138, 14, 146, 3, .null, false),
  (25, .invokevirtual 84, 15, 121, 2, .null, false),
  (28, .goto 4, 0, 17, 0, .null, false),
  (31, .iconst (-1), 17, 0, 0, .int (-1), true),
  (32, .ireturn, 0, 0, 0, .null, true)]
def q_X6_ruling : List (List mm_N) := [q_X6_ruling_0]
def q_X6_isOf_0 : List mm_N := [(0, .iload_n 0, 1, 0, 0, .null, false),
  (1, .iload_n 1, 2, 1, 0, .null, false),
  (2, .if_icmp .eq 23, 3, 15, 0, .null, false),
  (5, .iload_n 1, 4, 1, 0, .null, false),
  (6, .iconst 1, 5, 0, 0, .int 1, false),
  (7, .if_icmp .ne 8, 6, 9, 0, .null, false),
  (10, .iload_n 0, 7, 0, 0, .null, false),
  (11, .iconst 4, 8, 0, 0, .int 4, false),
  (12, .if_icmp .eq 13, 9, 15, 0, .null, false),
  (15, .iload_n 1, 10, 1, 0, .null, true),
  (16, .iconst 2, 11, 0, 0, .int 2, false),
  (17, .if_icmp .ne 12, 12, 17, 0, .null, false),
  (20, .iload_n 0, 13, 0, 0, .null, false),
  (21, .iconst 5, 14, 0, 0, .int 5, false),
  (22, .if_icmp .ne 7, 15, 17, 0, .null, false),
  (25, .iconst 1, 16, 0, 0, .int 1, true),
  (26, .goto 4, 0, 18, 0, .null, false),
  (29, .iconst 0, 18, 0, 0, .int 0, true),
  (30, .ireturn, 0, 0, 0, .null, true)]
def q_X6_isOf : List (List mm_N) := [q_X6_isOf_0]
def q_X6_depends_0 : List mm_N := [(0, .iconst 0, 1, 0, 0, .int 0, false),
  (1, .istore_n 2, 2, 2, 0, .null, false),
  (2, .aload_n 0, 3, 0, 0, .null, false),
  (3, .getfield 41, 4, 6, 14, .null, false),
  (6, .iload_n 1, 5, 1, 0, .null, false),
  (7, .iaload, 6, 0, 0, .null, false),
  (8, .istore_n 3, 7, 3, 0, .null, false),
  (9, .iload_n 3, 8, 3, 0, .null, true),
  (10, .bipush (-9), 9, 0, 0, .int (-9), false),
  (12, .if_icmp .eq 16, 10, 17, 0, .null, false),
  (15, .iinc 2 1, 11, 2, 0, .int 1, false),
  (18, .aload_n 0, 12, 0, 0, .null, false),
  (19, .getfield 41, 13, 6, 14, .null, false),
  (22, .iload_n 3, 14, 3, 0, .null, false),
  (23, .iaload, 15, 0, 0, .null, false),
  (24, .istore_n 3, 16, 3, 0, .null, false),
  (25, .goto (-16), 0, 7, 0, .null, false),
  (28, .iload_n 2, 18, 2, 0, .null, false),
  (29, .ireturn, 0, 0, 0, .null, false)]
def q_X6_depends : List (List mm_N) := [q_X6_depends_0]
def q_X6_ofItsDay_0 : List mm_N := [(0, .iconst 0, 1, 0, 0, .int 0, false),
  (1, .istore_n 2, 2, 2, 0, .null, false),
  (2, .iconst 0, 3, 0, 0, .int 0, false),
  (3, .istore_n 3, 4, 3, 0, .null, false),
  (4, .iload_n 3, 5, 3, 0, .null, true),
  (5, .aload_n 0, 6, 0, 0, .null, false),
  (6, .getfield 121, 7, 6, 10, .null, false),
  (9, .if_icmp .ge 37, 8, 28, 0, .null, false),
  (12, .iload_n 2, 9, 2, 0, .null, false),
  (13, .iload_n 3, 10, 3, 0, .null, false),
  (14, .iload_n 1, 11, 1, 0, .null, false),
  (15, .if_icmp .eq 22, 12, 23, 0, .null, false),
  (18, .aload_n 0, 13, 0, 0, .null, false),
  (19, .getfield 35, 14, 6, 12, .null, false),
  (22, .iload_n 3, 15, 3, 0, .null, false),
  (23, .iaload, 16, 0, 0, .null, false),
  (24, .aload_n 0, 17, 0, 0, .null, false),
  (25, .getfield 35, 18, 6, 12, .null, false),
  (28, .iload_n 1, 19, 1, 0, .null, false),
  (29, .iaload, 20, 0, 0, .null, false),
  (30, .if_icmp .ne 7, 21, 23, 0, .null, false),
  (33, .iconst 1, 22, 0, 0, .int 1, false),
  (34, .goto 4, 0, 24, 0, .null, false),
  (37, .iconst 0, 24, 0, 0, .int 0, true),
  (38, .iadd, 25, 0, 0, .null, true),
  (39, .istore_n 2, 26, 2, 0, .null, false),
  (40, .iinc 3 1, 27, 3, 0, .int 1, false),
  (43, .goto (-39), 0, 4, 0, .null, false),
  (46, .iload_n 2, 29, 2, 0, .null, false),
  (47, .ireturn, 0, 0, 0, .null, false)]
def q_X6_ofItsDay : List (List mm_N) := [q_X6_ofItsDay_0]
def q_X6_mark_0 : List mm_N := [(0, .aload_n 0, 1, 0, 0, .null, false),
  (1, .iload_n 1, 2, 1, 0, .null, false),
  (2, .invokevirtual 135, 3, 143, 2, .null, false),
  (5, .ifCond .eq 12, 4, 9, 0, .null, false),
  (8, .iload_n 2, 5, 2, 0, .null, false),
  (9, .iconst 1, 6, 0, 0, .int 1, false),
  (10, .iconst 5, 7, 0, 0, .int 5, false),
  (11, .invokestatic 72, 8, 117, 3, .null, false),
  (14, .ifCond .ne 5, 9, 11, 0, .null, false),
  (17, .iconst (-1), 10, 0, 0, .int (-1), true),
  (18, .ireturn, 0, 0, 0, .null, false),
  (19, .aload_n 0, 12, 0, 0, .null, false),
  (20, .getfield 32, 13, 6, 11, .null, false),
  (23, .iload_n 1, 14, 1, 0, .null, false),
  (24, .iaload, 15, 0, 0, .null, false),
  (25, .iload_n 2, 16, 2, 0, .null, false),
  (26, .invokestatic 141, 17, 148, 2, .null, false),
  (29, .ifCond .ne 9, 18, 22, 0, .null, false),
  (32, .aload_n 0, 19, 0, 0, .null, false),
  (33, .iconst 3, 20, 0, 0, .int 3, false),
  (34, .invokevirtual 80, 21, 120, 2, .null, false),
  (37, .ireturn, 0, 0, 0, .null, false),
  (38, .iload_n 2, 23, 2, 0, .null, false),
  (39, .iconst 5, 24, 0, 0, .int 5, false),
  (40, .if_icmp .ne 13, 25, 31, 0, .null, false),
  (43, .aload_n 0, 26, 0, 0, .null, false),
  (44, .invokevirtual 145, 27, 158, 1, .null, false),
  (47, .aload_n 0, 28, 0, 0, .null, false),
  (48, .iload_n 1, 29, 1, 0, .null, false),
  (49, .invokevirtual 148, 30, 165, 2, .null, false),
  (52, .ireturn, 0, 0, 0, .null, false),
  (53, .iload_n 2, 32, 2, 0, .null, false)]
def q_X6_mark_1 : List mm_N := [(54, .iconst 1, 33, 0, 0, .int 1, false),
  (55, .if_icmp .ne 11, 34, 38, 0, .null, false),
  (58, .aload_n 0, 35, 0, 0, .null, false),
  (59, .iload_n 1, 36, 1, 0, .null, false),
  (60, .invokevirtual 151, 37, 149, 2, .null, false),
  (63, .goto 36, 0, 57, 0, .null, false),
  (66, .iload_n 2, 39, 2, 0, .null, false),
  (67, .iconst 2, 40, 0, 0, .int 2, false),
  (68, .if_icmp .ne 12, 41, 46, 0, .null, false),
  (71, .aload_n 0, 42, 0, 0, .null, false),
  (72, .iload_n 1, 43, 1, 0, .null, false),
  (73, .iconst (-1), 44, 0, 0, .int (-1), false),
  (74, .invokevirtual 132, 45, 145, 3, .null, false),
  (77, .goto 22, 0, 57, 0, .null, false),
  (80, .iload_n 2, 47, 2, 0, .null, false),
  (81, .iconst 3, 48, 0, 0, .int 3, false),
  (82, .if_icmp .ne 12, 49, 54, 0, .null, false),
  (85, .aload_n 0, 50, 0, 0, .null, false),
  (86, .iload_n 1, 51, 1, 0, .null, false),
  (87, .iconst 1, 52, 0, 0, .int 1, false),
  (88, .invokevirtual 132, 53, 145, 3, .null, false),
  (91, .goto 8, 0, 57, 0, .null, false),
  (94, .aload_n 0, 55, 0, 0, .null, false),
  (95, .iload_n 1, 56, 1, 0, .null, false),
  (96, .invokevirtual 154, 57, 150, 2, .null, false),
  (99, .ireturn, 0, 0, 0, .null, true)]
def q_X6_mark : List (List mm_N) := [q_X6_mark_0, q_X6_mark_1]
def q_X6_reverse_0 : List mm_N := [(0, .aload_n 0, 1, 0, 0, .null, false),
  (1, .iload_n 1, 2, 1, 0, .null, false),
  (2, .invokevirtual 135, 3, 143, 2, .null, false),
  (5, .ifCond .eq 12, 4, 9, 0, .null, false),
  (8, .iload_n 2, 5, 2, 0, .null, false),
  (9, .iconst 0, 6, 0, 0, .int 0, false),
  (10, .iconst 1, 7, 0, 0, .int 1, false),
  (11, .invokestatic 72, 8, 117, 3, .null, false),
  (14, .ifCond .ne 5, 9, 11, 0, .null, false),
  (17, .iconst (-1), 10, 0, 0, .int (-1), true),
  (18, .ireturn, 0, 0, 0, .null, false),
  (19, .aload_n 0, 12, 0, 0, .null, false),
  (20, .getfield 38, 13, 6, 13, .null, false),
  (23, .iload_n 1, 14, 1, 0, .null, false),
  (24, .iaload, 15, 0, 0, .null, false),
  (25, .istore_n 3, 16, 3, 0, .null, false),
  (26, .aload_n 0, 17, 0, 0, .null, false),
  (27, .getfield 38, 18, 6, 13, .null, false),
  (30, .iload_n 1, 19, 1, 0, .null, false),
  (31, .iload_n 2, 20, 2, 0, .null, false),
  (32, .iastore, 21, 0, 0, .null, false),
  (33, .iload_n 3, 22, 3, 0, .null, false),
  (34, .ireturn, 0, 0, 0, .null, false)]
def q_X6_reverse : List (List mm_N) := [q_X6_reverse_0]
def q_X6_marks_0 : List mm_N := [(0, .aload_n 0, 1, 0, 0, .null, false),
  (1, .iload_n 1, 2, 1, 0, .null, false),
  (2, .invokevirtual 135, 3, 143, 2, .null, false),
  (5, .ifCond .eq 13, 4, 9, 0, .null, false),
  (8, .iload_n 2, 5, 2, 0, .null, false),
  (9, .iconst 0, 6, 0, 0, .int 0, false),
  (10, .bipush 31, 7, 0, 0, .int 31, false),
  (12, .invokestatic 72, 8, 117, 3, .null, false),
  (15, .ifCond .ne 5, 9, 11, 0, .null, false),
  (18, .iconst (-1), 10, 0, 0, .int (-1), true),
  (19, .ireturn, 0, 0, 0, .null, false),
  (20, .aload_n 0, 12, 0, 0, .null, false),
  (21, .getfield 47, 13, 6, 16, .null, false),
  (24, .iload_n 1, 14, 1, 0, .null, false),
  (25, .iaload, 15, 0, 0, .null, false),
  (26, .istore_n 3, 16, 3, 0, .null, false),
  (27, .aload_n 0, 17, 0, 0, .null, false),
  (28, .getfield 47, 18, 6, 16, .null, false),
  (31, .iload_n 1, 19, 1, 0, .null, false),
  (32, .iload_n 2, 20, 2, 0, .null, false),
  (33, .iastore, 21, 0, 0, .null, false),
  (34, .iload_n 3, 22, 3, 0, .null, false),
  (35, .ireturn, 0, 0, 0, .null, false)]
def q_X6_marks : List (List mm_N) := [q_X6_marks_0]
def q_X6_file_0 : List mm_N := [(0, .iload_n 1, 1, 1, 0, .null, false),
  (1, .iconst 0, 2, 0, 0, .int 0, false),
  (2, .iconst 5, 3, 0, 0, .int 5, false),
  (3, .invokestatic 72, 4, 117, 3, .null, false),
  (6, .ifCond .eq 26, 5, 17, 0, .null, false),
  (9, .iload_n 2, 6, 2, 0, .null, false),
  (10, .iconst 0, 7, 0, 0, .int 0, false),
  (11, .bipush 9, 8, 0, 0, .int 9, false),
  (13, .invokestatic 72, 9, 117, 3, .null, false),
  (16, .ifCond .eq 16, 10, 17, 0, .null, false),
  (19, .iload_n 3, 11, 3, 0, .null, false),
  (20, .iconst 0, 12, 0, 0, .int 0, false),
  (21, .iconst 1, 13, 0, 0, .int 1, false),
  (22, .invokestatic 72, 14, 117, 3, .null, false),
  (25, .ifCond .eq 7, 15, 17, 0, .null, false),
  (28, .iconst 1, 16, 0, 0, .int 1, false),
  (29, .goto 4, 0, 18, 0, .null, false),
  (32, .iconst 0, 18, 0, 0, .int 0, true),
  (33, .istore 6, 19, 6, 0, .null, true),
  (35, .aload_n 0, 20, 0, 0, .null, false),
  (36, .iload 4, 21, 4, 0, .null, false),
  (38, .invokevirtual 135, 22, 143, 2, .null, false),
  (41, .ifCond .eq 19, 23, 31, 0, .null, false),
  (44, .iload 5, 24, 5, 0, .null, false),
  (46, .iconst 1, 25, 0, 0, .int 1, false),
  (47, .if_icmp .eq 9, 26, 29, 0, .null, false),
  (50, .iload 5, 27, 5, 0, .null, false),
  (52, .iconst (-1), 28, 0, 0, .int (-1), false),
  (53, .if_icmp .ne 7, 29, 31, 0, .null, false),
  (56, .iconst 1, 30, 0, 0, .int 1, true),
  (57, .goto 4, 0, 32, 0, .null, false),
  (60, .iconst 0, 32, 0, 0, .int 0, true)]
def q_X6_file_1 : List mm_N := [(61, .istore 7, 33, 7, 0, .null, true),
  (63, .iload 6, 34, 6, 0, .null, false),
  (65, .ifCond .eq 36, 35, 50, 0, .null, false),
  (68, .iload 7, 36, 7, 0, .null, false),
  (70, .ifCond .ne 15, 37, 42, 0, .null, false),
  (73, .iload 4, 38, 4, 0, .null, false),
  (75, .bipush (-9), 39, 0, 0, .int (-9), false),
  (77, .if_icmp .ne 24, 40, 50, 0, .null, false),
  (80, .iload 5, 41, 5, 0, .null, false),
  (82, .ifCond .ne 19, 42, 50, 0, .null, false),
  (85, .iload 7, 43, 7, 0, .null, true),
  (87, .ifCond .eq 16, 44, 52, 0, .null, false),
  (90, .aload_n 0, 45, 0, 0, .null, false),
  (91, .getfield 35, 46, 6, 12, .null, false),
  (94, .iload 4, 47, 4, 0, .null, false),
  (96, .iaload, 48, 0, 0, .null, false),
  (97, .iload_n 2, 49, 2, 0, .null, false),
  (98, .if_icmp .lt 5, 50, 52, 0, .null, false),
  (101, .iconst (-1), 51, 0, 0, .int (-1), true),
  (102, .ireturn, 0, 0, 0, .null, false),
  (103, .aload_n 0, 53, 0, 0, .null, true),
  (104, .getfield 121, 54, 6, 10, .null, false),
  (107, .bipush 9, 55, 0, 0, .int 9, false),
  (109, .if_icmp .ne 6, 56, 58, 0, .null, false),
  (112, .bipush (-2), 57, 0, 0, .int (-2), false),
  (114, .ireturn, 0, 0, 0, .null, false),
  (115, .aload_n 0, 59, 0, 0, .null, false),
  (116, .iload_n 1, 60, 1, 0, .null, false),
  (117, .iload_n 2, 61, 2, 0, .null, false),
  (118, .iload_n 3, 62, 3, 0, .null, false),
  (119, .iload 4, 63, 4, 0, .null, false),
  (121, .iload 5, 64, 5, 0, .null, false)]
def q_X6_file_2 : List mm_N := [(123, .iconst 0, 65, 0, 0, .int 0, false),
  (124, .invokevirtual 124, 66, 141, 7, .null, false),
  (127, .aload_n 0, 67, 0, 0, .null, false),
  (128, .getfield 121, 68, 6, 10, .null, false),
  (131, .iconst 1, 69, 0, 0, .int 1, false),
  (132, .isub, 70, 0, 0, .null, false),
  (133, .ireturn, 0, 0, 0, .null, false)]
def q_X6_file : List (List mm_N) := [q_X6_file_0, q_X6_file_1, q_X6_file_2]
def q_X6_strike_0 : List mm_N := [(0, .iload_n 1, 1, 1, 0, .null, false),
  (1, .iconst 0, 2, 0, 0, .int 0, false),
  (2, .aload_n 0, 3, 0, 0, .null, false),
  (3, .getfield 121, 4, 6, 10, .null, false),
  (6, .invokestatic 72, 5, 117, 3, .null, false),
  (9, .ifCond .ne 5, 6, 8, 0, .null, false),
  (12, .iconst (-1), 7, 0, 0, .int (-1), false),
  (13, .ireturn, 0, 0, 0, .null, false),
  (14, .aload_n 0, 9, 0, 0, .null, false),
  (15, .getfield 121, 10, 6, 10, .null, false),
  (18, .iload_n 1, 11, 1, 0, .null, false),
  (19, .isub, 12, 0, 0, .null, false),
  (20, .istore_n 2, 13, 2, 0, .null, false),
  (21, .iconst 0, 14, 0, 0, .int 0, false),
  (22, .istore_n 3, 15, 3, 0, .null, false),
  (23, .iload_n 3, 16, 3, 0, .null, true),
  (24, .iload_n 1, 17, 1, 0, .null, false),
  (25, .if_icmp .ge 69, 18, 54, 0, .null, false),
  (28, .aload_n 0, 19, 0, 0, .null, false),
  (29, .getfield 41, 20, 6, 14, .null, false),
  (32, .iload_n 3, 21, 3, 0, .null, false),
  (33, .iaload, 22, 0, 0, .null, false),
  (34, .iload_n 1, 23, 1, 0, .null, false),
  (35, .if_icmp .lt 7, 24, 26, 0, .null, false),
  (38, .iconst 1, 25, 0, 0, .int 1, false),
  (39, .goto 4, 0, 27, 0, .null, false),
  (42, .iconst 0, 27, 0, 0, .int 0, false),
  (43, .istore 4, 28, 4, 0, .null, true),
  (45, .aload_n 0, 29, 0, 0, .null, false),
  (46, .getfield 41, 30, 6, 14, .null, false),
  (49, .iload_n 3, 31, 3, 0, .null, false),
  (50, .iload 4, 32, 4, 0, .null, false)]
def q_X6_strike_1 : List mm_N := [(52, .ifCond .eq 8, 33, 35, 0, .null, false),
  (55, .bipush (-9), 34, 0, 0, .int (-9), false),
  (57, .goto 9, 0, 39, 0, .null, false),
  (60, .aload_n 0, 36, 0, 0, .null, false),
  (61, .getfield 41, 37, 6, 14, .null, false),
  (64, .iload_n 3, 38, 3, 0, .null, false),
  (65, .iaload, 39, 0, 0, .null, false),
  (66, .iastore, 40, 0, 0, .null, true),
  (67, .aload_n 0, 41, 0, 0, .null, false),
  (68, .getfield 44, 42, 6, 15, .null, false),
  (71, .iload_n 3, 43, 3, 0, .null, false),
  (72, .iload 4, 44, 4, 0, .null, false),
  (74, .ifCond .eq 7, 45, 47, 0, .null, false),
  (77, .iconst 0, 46, 0, 0, .int 0, false),
  (78, .goto 9, 0, 51, 0, .null, false),
  (81, .aload_n 0, 48, 0, 0, .null, false),
  (82, .getfield 44, 49, 6, 15, .null, false),
  (85, .iload_n 3, 50, 3, 0, .null, false),
  (86, .iaload, 51, 0, 0, .null, false),
  (87, .iastore, 52, 0, 0, .null, true),
  (88, .iinc 3 1, 53, 3, 0, .int 1, false),
  (91, .goto (-68), 0, 15, 0, .null, false),
  (94, .aload_n 0, 55, 0, 0, .null, false),
  (95, .iload_n 1, 56, 1, 0, .null, false),
  (96, .putfield 121, 57, 6, 10, .null, false),
  (99, .iload_n 2, 58, 2, 0, .null, false),
  (100, .ireturn, 0, 0, 0, .null, false)]
def q_X6_strike : List (List mm_N) := [q_X6_strike_0, q_X6_strike_1]
def q_X6_keep_0 : List mm_N := [(0, .iload_n 1, 1, 1, 0, .null, false),
  (1, .iconst 0, 2, 0, 0, .int 0, false),
  (2, .iconst 2, 3, 0, 0, .int 2, false),
  (3, .invokestatic 72, 4, 117, 3, .null, false),
  (6, .ifCond .ne 5, 5, 7, 0, .null, false),
  (9, .iconst (-1), 6, 0, 0, .int (-1), false),
  (10, .ireturn, 0, 0, 0, .null, false),
  (11, .aload_n 0, 8, 0, 0, .null, false),
  (12, .getfield 121, 9, 6, 10, .null, false),
  (15, .ifCond .ne 6, 10, 12, 0, .null, false),
  (18, .bipush (-4), 11, 0, 0, .int (-4), false),
  (20, .ireturn, 0, 0, 0, .null, false),
  (21, .aload_n 0, 13, 0, 0, .null, false),
  (22, .getfield 50, 14, 6, 17, .null, false),
  (25, .iload_n 1, 15, 1, 0, .null, false),
  (26, .aload_n 0, 16, 0, 0, .null, false),
  (27, .getfield 121, 17, 6, 10, .null, false),
  (30, .iastore, 18, 0, 0, .null, false),
  (31, .iconst 0, 19, 0, 0, .int 0, false),
  (32, .istore_n 2, 20, 2, 0, .null, false),
  (33, .iload_n 2, 21, 2, 0, .null, true),
  (34, .aload_n 0, 22, 0, 0, .null, false),
  (35, .getfield 121, 23, 6, 10, .null, false),
  (38, .if_icmp .ge 45, 24, 49, 0, .null, false),
  (41, .iconst 0, 25, 0, 0, .int 0, false),
  (42, .istore_n 3, 26, 3, 0, .null, false),
  (43, .iload_n 3, 27, 3, 0, .null, true),
  (44, .bipush 6, 28, 0, 0, .int 6, false),
  (46, .if_icmp .ge 31, 29, 47, 0, .null, false),
  (49, .aload_n 0, 30, 0, 0, .null, false),
  (50, .getfield 53, 31, 6, 18, .null, false),
  (53, .bipush 54, 32, 0, 0, .int 54, false)]
def q_X6_keep_1 : List mm_N := [(55, .iload_n 1, 33, 1, 0, .null, false),
  (56, .imul, 34, 0, 0, .null, false),
  (57, .bipush 6, 35, 0, 0, .int 6, false),
  (59, .iload_n 2, 36, 2, 0, .null, false),
  (60, .imul, 37, 0, 0, .null, false),
  (61, .iadd, 38, 0, 0, .null, false),
  (62, .iload_n 3, 39, 3, 0, .null, false),
  (63, .iadd, 40, 0, 0, .null, false),
  (64, .aload_n 0, 41, 0, 0, .null, false),
  (65, .iload_n 2, 42, 2, 0, .null, false),
  (66, .iload_n 3, 43, 3, 0, .null, false),
  (67, .invokevirtual 138, 44, 146, 3, .null, false),
  (70, .iastore, 45, 0, 0, .null, false),
  (71, .iinc 3 1, 46, 3, 0, .int 1, false),
  (74, .goto (-31), 0, 26, 0, .null, false),
  (77, .iinc 2 1, 48, 2, 0, .int 1, false),
  (80, .goto (-47), 0, 20, 0, .null, false),
  (83, .aload_n 0, 50, 0, 0, .null, false),
  (84, .getfield 121, 51, 6, 10, .null, false),
  (87, .ireturn, 0, 0, 0, .null, false)]
def q_X6_keep : List (List mm_N) := [q_X6_keep_0, q_X6_keep_1]
def q_X6_on_0 : List mm_N := [(0, .iload_n 1, 1, 1, 0, .null, false),
  (1, .iconst 0, 2, 0, 0, .int 0, false),
  (2, .iconst 2, 3, 0, 0, .int 2, false),
  (3, .invokestatic 72, 4, 117, 3, .null, false),
  (6, .ifCond .ne 5, 5, 7, 0, .null, false),
  (9, .iconst (-1), 6, 0, 0, .int (-1), false),
  (10, .ireturn, 0, 0, 0, .null, false),
  (11, .aload_n 0, 8, 0, 0, .null, false),
  (12, .getfield 50, 9, 6, 17, .null, false),
  (15, .iload_n 1, 10, 1, 0, .null, false),
  (16, .iaload, 11, 0, 0, .null, false),
  (17, .ifCond .ge 9, 12, 16, 0, .null, false),
  (20, .aload_n 0, 13, 0, 0, .null, false),
  (21, .iconst 1, 14, 0, 0, .int 1, false),
  (22, .invokevirtual 80, 15, 120, 2, .null, false),
  (25, .ireturn, 0, 0, 0, .null, false),
  (26, .aload_n 0, 17, 0, 0, .null, false),
  (27, .iconst 0, 18, 0, 0, .int 0, false),
  (28, .putfield 121, 19, 6, 10, .null, false),
  (31, .iconst 0, 20, 0, 0, .int 0, false),
  (32, .istore_n 2, 21, 2, 0, .null, false),
  (33, .iload_n 2, 22, 2, 0, .null, true),
  (34, .aload_n 0, 23, 0, 0, .null, false),
  (35, .getfield 50, 24, 6, 17, .null, false),
  (38, .iload_n 1, 25, 1, 0, .null, false),
  (39, .iaload, 26, 0, 0, .null, false),
  (40, .if_icmp .ge 69, 27, 73, 0, .null, false),
  (43, .bipush 54, 28, 0, 0, .int 54, false),
  (45, .iload_n 1, 29, 1, 0, .null, false),
  (46, .imul, 30, 0, 0, .null, false),
  (47, .bipush 6, 31, 0, 0, .int 6, false),
  (49, .iload_n 2, 32, 2, 0, .null, false)]
def q_X6_on_1 : List mm_N := [(50, .imul, 33, 0, 0, .null, false),
  (51, .iadd, 34, 0, 0, .null, false),
  (52, .istore_n 3, 35, 3, 0, .null, false),
  (53, .aload_n 0, 36, 0, 0, .null, false),
  (54, .aload_n 0, 37, 0, 0, .null, false),
  (55, .getfield 53, 38, 6, 18, .null, false),
  (58, .iload_n 3, 39, 3, 0, .null, false),
  (59, .iaload, 40, 0, 0, .null, false),
  (60, .aload_n 0, 41, 0, 0, .null, false),
  (61, .getfield 53, 42, 6, 18, .null, false),
  (64, .iload_n 3, 43, 3, 0, .null, false),
  (65, .iconst 1, 44, 0, 0, .int 1, false),
  (66, .iadd, 45, 0, 0, .null, false),
  (67, .iaload, 46, 0, 0, .null, false),
  (68, .aload_n 0, 47, 0, 0, .null, false),
  (69, .getfield 53, 48, 6, 18, .null, false),
  (72, .iload_n 3, 49, 3, 0, .null, false),
  (73, .iconst 2, 50, 0, 0, .int 2, false),
  (74, .iadd, 51, 0, 0, .null, false),
  (75, .iaload, 52, 0, 0, .null, false),
  (76, .aload_n 0, 53, 0, 0, .null, false),
  (77, .getfield 53, 54, 6, 18, .null, false),
  (80, .iload_n 3, 55, 3, 0, .null, false),
  (81, .iconst 3, 56, 0, 0, .int 3, false),
  (82, .iadd, 57, 0, 0, .null, false),
  (83, .iaload, 58, 0, 0, .null, false),
  (84, .aload_n 0, 59, 0, 0, .null, false),
  (85, .getfield 53, 60, 6, 18, .null, false),
  (88, .iload_n 3, 61, 3, 0, .null, false),
  (89, .iconst 4, 62, 0, 0, .int 4, false),
  (90, .iadd, 63, 0, 0, .null, false),
  (91, .iaload, 64, 0, 0, .null, false)]
def q_X6_on_2 : List mm_N := [(92, .aload_n 0, 65, 0, 0, .null, false),
  (93, .getfield 53, 66, 6, 18, .null, false),
  (96, .iload_n 3, 67, 3, 0, .null, false),
  (97, .iconst 5, 68, 0, 0, .int 5, false),
  (98, .iadd, 69, 0, 0, .null, false),
  (99, .iaload, 70, 0, 0, .null, false),
  (100, .invokevirtual 124, 71, 141, 7, .null, false),
  (103, .iinc 2 1, 72, 2, 0, .int 1, false),
  (106, .goto (-73), 0, 21, 0, .null, false),
  (109, .aload_n 0, 74, 0, 0, .null, false),
  (110, .getfield 121, 75, 6, 10, .null, false),
  (113, .ireturn, 0, 0, 0, .null, false)]
def q_X6_on : List (List mm_N) := [q_X6_on_0, q_X6_on_1, q_X6_on_2]
def q_X6_all_0 : List mm_N := [(0, .aload_n 0, 1, 0, 0, .null, false),
  (1, .iconst 1, 2, 0, 0, .int 1, false),
  (2, .aload_n 0, 3, 0, 0, .null, false),
  (3, .getfield 121, 4, 6, 10, .null, false),
  (6, .ishl, 5, 0, 0, .null, false),
  (7, .iconst 1, 6, 0, 0, .int 1, false),
  (8, .isub, 7, 0, 0, .null, false),
  (9, .putfield 157, 8, 6, 19, .null, false),
  (12, .iconst 0, 9, 0, 0, .int 0, false),
  (13, .istore_n 1, 10, 1, 0, .null, false),
  (14, .iload_n 1, 11, 1, 0, .null, true),
  (15, .bipush 9, 12, 0, 0, .int 9, false),
  (17, .if_icmp .ge 16, 13, 20, 0, .null, false),
  (20, .aload_n 0, 14, 0, 0, .null, false),
  (21, .getfield 56, 15, 6, 20, .null, false),
  (24, .iload_n 1, 16, 1, 0, .null, false),
  (25, .iconst 0, 17, 0, 0, .int 0, false),
  (26, .iastore, 18, 0, 0, .null, false),
  (27, .iinc 1 1, 19, 1, 0, .int 1, false),
  (30, .goto (-16), 0, 10, 0, .null, false),
  (33, .return_, 0, 0, 0, .null, false)]
def q_X6_all : List (List mm_N) := [q_X6_all_0]
def q_X6_isDue_0 : List mm_N := [(0, .aload_n 0, 1, 0, 0, .null, false),
  (1, .getfield 56, 2, 6, 20, .null, false),
  (4, .iload_n 1, 3, 1, 0, .null, false),
  (5, .iaload, 4, 0, 0, .null, false),
  (6, .istore 6, 5, 6, 0, .null, false),
  (8, .iconst 0, 6, 0, 0, .int 0, false),
  (9, .istore 7, 7, 7, 0, .null, false),
  (11, .iconst 0, 8, 0, 0, .int 0, false),
  (12, .istore 8, 9, 8, 0, .null, false),
  (14, .iconst 0, 10, 0, 0, .int 0, false),
  (15, .istore 9, 11, 9, 0, .null, false),
  (17, .iload 9, 12, 9, 0, .null, true),
  (19, .aload_n 0, 13, 0, 0, .null, false),
  (20, .getfield 121, 14, 6, 10, .null, false),
  (23, .if_icmp .ge 141, 15, 85, 0, .null, false),
  (26, .iload_n 2, 16, 2, 0, .null, false),
  (27, .aload_n 0, 17, 0, 0, .null, false),
  (28, .getfield 157, 18, 6, 19, .null, false),
  (31, .iand, 19, 0, 0, .null, false),
  (32, .iload 9, 20, 9, 0, .null, false),
  (34, .invokestatic 160, 21, 118, 2, .null, false),
  (37, .istore 10, 22, 10, 0, .null, false),
  (39, .iload 10, 23, 10, 0, .null, false),
  (41, .ifCond .eq 25, 24, 35, 0, .null, false),
  (44, .aload_n 0, 25, 0, 0, .null, false),
  (45, .getfield 41, 26, 6, 14, .null, false),
  (48, .iload 9, 27, 9, 0, .null, false),
  (50, .iaload, 28, 0, 0, .null, false),
  (51, .iload_n 1, 29, 1, 0, .null, false),
  (52, .if_icmp .ne 14, 30, 35, 0, .null, false),
  (55, .iload 9, 31, 9, 0, .null, false),
  (57, .iload 5, 32, 5, 0, .null, false)]
def q_X6_isDue_1 : List mm_N := [(59, .if_icmp .eq 7, 33, 35, 0, .null, false),
  (62, .iconst 1, 34, 0, 0, .int 1, false),
  (63, .goto 4, 0, 36, 0, .null, false),
  (66, .iconst 0, 36, 0, 0, .int 0, true),
  (67, .istore 11, 37, 11, 0, .null, true),
  (69, .iload 6, 38, 6, 0, .null, false),
  (71, .iload 11, 39, 11, 0, .null, false),
  (73, .ifCond .eq 17, 40, 47, 0, .null, false),
  (76, .aload_n 0, 41, 0, 0, .null, false),
  (77, .getfield 44, 42, 6, 15, .null, false),
  (80, .iload 9, 43, 9, 0, .null, false),
  (82, .iaload, 44, 0, 0, .null, false),
  (83, .ifCond .ge 7, 45, 47, 0, .null, false),
  (86, .iconst 1, 46, 0, 0, .int 1, false),
  (87, .goto 4, 0, 48, 0, .null, false),
  (90, .iconst 0, 48, 0, 0, .int 0, true),
  (91, .iadd, 49, 0, 0, .null, true),
  (92, .istore 6, 50, 6, 0, .null, false),
  (94, .iload 7, 51, 7, 0, .null, false),
  (96, .iload 11, 52, 11, 0, .null, false),
  (98, .ifCond .eq 17, 53, 60, 0, .null, false),
  (101, .aload_n 0, 54, 0, 0, .null, false),
  (102, .getfield 44, 55, 6, 15, .null, false),
  (105, .iload 9, 56, 9, 0, .null, false),
  (107, .iaload, 57, 0, 0, .null, false),
  (108, .ifCond .le 7, 58, 60, 0, .null, false),
  (111, .iconst 1, 59, 0, 0, .int 1, false),
  (112, .goto 4, 0, 61, 0, .null, false),
  (115, .iconst 0, 61, 0, 0, .int 0, true),
  (116, .iadd, 62, 0, 0, .null, true),
  (117, .istore 7, 63, 7, 0, .null, false),
  (119, .iload 8, 64, 8, 0, .null, false)]
def q_X6_isDue_2 : List mm_N := [(121, .ifCond .ne 30, 65, 79, 0, .null, false),
  (124, .iload 10, 66, 10, 0, .null, false),
  (126, .ifCond .eq 29, 67, 81, 0, .null, false),
  (129, .iload 9, 68, 9, 0, .null, false),
  (131, .iload_n 1, 69, 1, 0, .null, false),
  (132, .if_icmp .eq 23, 70, 81, 0, .null, false),
  (135, .aload_n 0, 71, 0, 0, .null, false),
  (136, .getfield 35, 72, 6, 12, .null, false),
  (139, .iload 9, 73, 9, 0, .null, false),
  (141, .iaload, 74, 0, 0, .null, false),
  (142, .aload_n 0, 75, 0, 0, .null, false),
  (143, .getfield 35, 76, 6, 12, .null, false),
  (146, .iload_n 1, 77, 1, 0, .null, false),
  (147, .iaload, 78, 0, 0, .null, false),
  (148, .if_icmp .ne 7, 79, 81, 0, .null, false),
  (151, .iconst 1, 80, 0, 0, .int 1, true),
  (152, .goto 4, 0, 82, 0, .null, false),
  (155, .iconst 0, 82, 0, 0, .int 0, true),
  (156, .istore 8, 83, 8, 0, .null, true),
  (158, .iinc 9 1, 84, 9, 0, .int 1, false),
  (161, .goto (-144), 0, 11, 0, .null, false),
  (164, .iload 4, 86, 4, 0, .null, false),
  (166, .bipush (-9), 87, 0, 0, .int (-9), false),
  (168, .if_icmp .eq 17, 88, 95, 0, .null, false),
  (171, .iload_n 2, 89, 2, 0, .null, false),
  (172, .aload_n 0, 90, 0, 0, .null, false),
  (173, .getfield 157, 91, 6, 19, .null, false),
  (176, .iand, 92, 0, 0, .null, false),
  (177, .iload 4, 93, 4, 0, .null, false),
  (179, .invokestatic 160, 94, 118, 2, .null, false),
  (182, .ifCond .eq 7, 95, 97, 0, .null, false),
  (185, .iconst 1, 96, 0, 0, .int 1, true)]
def q_X6_isDue_3 : List mm_N := [(186, .goto 4, 0, 98, 0, .null, false),
  (189, .iconst 0, 98, 0, 0, .int 0, false),
  (190, .istore 9, 99, 9, 0, .null, true),
  (192, .iload_n 3, 100, 3, 0, .null, false),
  (193, .tableswitch 102 1 5 #[35, 51, 63, 79, 100], 0, 0, 136, .null, false),
  (228, .iload 6, 102, 6, 0, .null, false),
  (230, .ifCond .ne 12, 103, 107, 0, .null, false),
  (233, .iload 9, 104, 9, 0, .null, false),
  (235, .ifCond .eq 7, 105, 107, 0, .null, false),
  (238, .iconst 1, 106, 0, 0, .int 1, false),
  (239, .goto 4, 0, 108, 0, .null, false),
  (242, .iconst 0, 108, 0, 0, .int 0, true),
  (243, .ireturn, 0, 0, 0, .null, true),
  (244, .iload 6, 110, 6, 0, .null, false),
  (246, .iconst 2, 111, 0, 0, .int 2, false),
  (247, .if_icmp .ge 7, 112, 114, 0, .null, false),
  (250, .iconst 1, 113, 0, 0, .int 1, false),
  (251, .goto 4, 0, 115, 0, .null, false),
  (254, .iconst 0, 115, 0, 0, .int 0, false),
  (255, .ireturn, 0, 0, 0, .null, true),
  (256, .iload 6, 117, 6, 0, .null, false),
  (258, .ifCond .ne 12, 118, 122, 0, .null, false),
  (261, .iload 7, 119, 7, 0, .null, false),
  (263, .ifCond .le 7, 120, 122, 0, .null, false),
  (266, .iconst 1, 121, 0, 0, .int 1, false),
  (267, .goto 4, 0, 123, 0, .null, false),
  (270, .iconst 0, 123, 0, 0, .int 0, true),
  (271, .ireturn, 0, 0, 0, .null, true),
  (272, .iload 6, 125, 6, 0, .null, false),
  (274, .ifCond .ne 17, 126, 132, 0, .null, false),
  (277, .iload 9, 127, 9, 0, .null, false),
  (279, .ifCond .eq 12, 128, 132, 0, .null, false)]
def q_X6_isDue_4 : List mm_N := [(282, .iload 8, 129, 8, 0, .null, false),
  (284, .ifCond .eq 7, 130, 132, 0, .null, false),
  (287, .iconst 1, 131, 0, 0, .int 1, false),
  (288, .goto 4, 0, 133, 0, .null, false),
  (291, .iconst 0, 133, 0, 0, .int 0, true),
  (292, .ireturn, 0, 0, 0, .null, true),
  (293, .iconst 1, 135, 0, 0, .int 1, false),
  (294, .ireturn, 0, 0, 0, .null, false),
  (295, .iload 6, 137, 6, 0, .null, false),
  (297, .ifCond .ne 7, 138, 140, 0, .null, false),
  (300, .iconst 1, 139, 0, 0, .int 1, false),
  (301, .goto 4, 0, 141, 0, .null, false),
  (304, .iconst 0, 141, 0, 0, .int 0, false),
  (305, .ireturn, 0, 0, 0, .null, true)]
def q_X6_isDue : List (List mm_N) := [q_X6_isDue_0, q_X6_isDue_1, q_X6_isDue_2, q_X6_isDue_3, q_X6_isDue_4]
def q_X6_dueBy_0 : List mm_N := [(0, .iconst 0, 1, 0, 0, .int 0, false),
  (1, .istore_n 2, 2, 2, 0, .null, false),
  (2, .iconst 0, 3, 0, 0, .int 0, false),
  (3, .istore_n 3, 4, 3, 0, .null, false),
  (4, .iload_n 3, 5, 3, 0, .null, true),
  (5, .aload_n 0, 6, 0, 0, .null, false),
  (6, .getfield 121, 7, 6, 10, .null, false),
  (9, .if_icmp .ge 53, 8, 37, 0, .null, false),
  (12, .iload_n 2, 9, 2, 0, .null, false),
  (13, .aload_n 0, 10, 0, 0, .null, false),
  (14, .getfield 157, 11, 6, 19, .null, false),
  (17, .iload_n 3, 12, 3, 0, .null, false),
  (18, .invokestatic 160, 13, 118, 2, .null, false),
  (21, .ifCond .eq 32, 14, 32, 0, .null, false),
  (24, .aload_n 0, 15, 0, 0, .null, false),
  (25, .iload_n 3, 16, 3, 0, .null, false),
  (26, .iload_n 1, 17, 1, 0, .null, false),
  (27, .aload_n 0, 18, 0, 0, .null, false),
  (28, .getfield 32, 19, 6, 11, .null, false),
  (31, .iload_n 3, 20, 3, 0, .null, false),
  (32, .iaload, 21, 0, 0, .null, false),
  (33, .aload_n 0, 22, 0, 0, .null, false),
  (34, .getfield 41, 23, 6, 14, .null, false),
  (37, .iload_n 3, 24, 3, 0, .null, false),
  (38, .iaload, 25, 0, 0, .null, false),
  (39, .bipush (-9), 26, 0, 0, .int (-9), false),
  (41, .invokevirtual 163, 27, 159, 6, .null, false),
  (44, .ifCond .eq 9, 28, 32, 0, .null, false),
  (47, .iconst 1, 29, 0, 0, .int 1, false),
  (48, .iload_n 3, 30, 3, 0, .null, false),
  (49, .ishl, 31, 0, 0, .null, false),
  (50, .goto 4, 0, 33, 0, .null, false)]
def q_X6_dueBy_1 : List mm_N := [(53, .iconst 0, 33, 0, 0, .int 0, true),
  (54, .ior, 34, 0, 0, .null, true),
  (55, .istore_n 2, 35, 2, 0, .null, false),
  (56, .iinc 3 1, 36, 3, 0, .int 1, false),
  (59, .goto (-55), 0, 4, 0, .null, false),
  (62, .iload_n 2, 38, 2, 0, .null, false),
  (63, .ireturn, 0, 0, 0, .null, false)]
def q_X6_dueBy : List (List mm_N) := [q_X6_dueBy_0, q_X6_dueBy_1]
def q_X6_isWay_0 : List mm_N := [(0, .iload_n 1, 1, 1, 0, .null, false),
  (1, .aload_n 0, 2, 0, 0, .null, false),
  (2, .getfield 157, 3, 6, 19, .null, false),
  (5, .iconst (-1), 4, 0, 0, .int (-1), false),
  (6, .ixor, 5, 0, 0, .null, false),
  (7, .iand, 6, 0, 0, .null, false),
  (8, .ifCond .ne 16, 7, 14, 0, .null, false),
  (11, .aload_n 0, 8, 0, 0, .null, false),
  (12, .iload_n 1, 9, 1, 0, .null, false),
  (13, .invokevirtual 167, 10, 160, 2, .null, false),
  (16, .iload_n 1, 11, 1, 0, .null, false),
  (17, .if_icmp .ne 7, 12, 14, 0, .null, false),
  (20, .iconst 1, 13, 0, 0, .int 1, false),
  (21, .goto 4, 0, 15, 0, .null, false),
  (24, .iconst 0, 15, 0, 0, .int 0, true),
  (25, .ireturn, 0, 0, 0, .null, true)]
def q_X6_isWay : List (List mm_N) := [q_X6_isWay_0]
def q_X6_due_0 : List mm_N := [(0, .aload_n 0, 1, 0, 0, .null, false),
  (1, .iload_n 1, 2, 1, 0, .null, false),
  (2, .invokevirtual 170, 3, 144, 2, .null, false),
  (5, .ifCond .ne 5, 4, 6, 0, .null, false),
  (8, .iconst (-1), 5, 0, 0, .int (-1), false),
  (9, .ireturn, 0, 0, 0, .null, false),
  (10, .aload_n 0, 7, 0, 0, .null, false),
  (11, .invokevirtual 145, 8, 158, 1, .null, false),
  (14, .aload_n 0, 9, 0, 0, .null, false),
  (15, .iload_n 1, 10, 1, 0, .null, false),
  (16, .invokevirtual 167, 11, 160, 2, .null, false),
  (19, .ireturn, 0, 0, 0, .null, false)]
def q_X6_due : List (List mm_N) := [q_X6_due_0]
def q_X6_wayMany_0 : List mm_N := [(0, .iconst 0, 1, 0, 0, .int 0, false),
  (1, .istore_n 1, 2, 1, 0, .null, false),
  (2, .iconst 0, 3, 0, 0, .int 0, false),
  (3, .istore_n 2, 4, 2, 0, .null, false),
  (4, .iload_n 2, 5, 2, 0, .null, true),
  (5, .iconst 1, 6, 0, 0, .int 1, false),
  (6, .aload_n 0, 7, 0, 0, .null, false),
  (7, .getfield 121, 8, 6, 10, .null, false),
  (10, .ishl, 9, 0, 0, .null, false),
  (11, .if_icmp .ge 25, 10, 22, 0, .null, false),
  (14, .iload_n 1, 11, 1, 0, .null, false),
  (15, .aload_n 0, 12, 0, 0, .null, false),
  (16, .iload_n 2, 13, 2, 0, .null, false),
  (17, .invokevirtual 173, 14, 161, 2, .null, false),
  (20, .ifCond .eq 7, 15, 17, 0, .null, false),
  (23, .iconst 1, 16, 0, 0, .int 1, false),
  (24, .goto 4, 0, 18, 0, .null, false),
  (27, .iconst 0, 18, 0, 0, .int 0, false),
  (28, .iadd, 19, 0, 0, .null, true),
  (29, .istore_n 1, 20, 1, 0, .null, false),
  (30, .iinc 2 1, 21, 2, 0, .int 1, false),
  (33, .goto (-29), 0, 4, 0, .null, false),
  (36, .iload_n 1, 23, 1, 0, .null, false),
  (37, .ireturn, 0, 0, 0, .null, false)]
def q_X6_wayMany : List (List mm_N) := [q_X6_wayMany_0]
def q_X6_firstWay_0 : List mm_N := [(0, .iconst 0, 1, 0, 0, .int 0, false),
  (1, .istore_n 1, 2, 1, 0, .null, false),
  (2, .iload_n 1, 3, 1, 0, .null, true),
  (3, .iconst 1, 4, 0, 0, .int 1, false),
  (4, .aload_n 0, 5, 0, 0, .null, false),
  (5, .getfield 121, 6, 6, 10, .null, false),
  (8, .ishl, 7, 0, 0, .null, false),
  (9, .if_icmp .ge 17, 8, 14, 0, .null, false),
  (12, .aload_n 0, 9, 0, 0, .null, false),
  (13, .iload_n 1, 10, 1, 0, .null, false),
  (14, .invokevirtual 173, 11, 161, 2, .null, false),
  (17, .ifCond .ne 9, 12, 14, 0, .null, false),
  (20, .iinc 1 1, 13, 1, 0, .int 1, false),
  (23, .goto (-21), 0, 2, 0, .null, false),
  (26, .iload_n 1, 15, 1, 0, .null, true),
  (27, .iconst 1, 16, 0, 0, .int 1, false),
  (28, .aload_n 0, 17, 0, 0, .null, false),
  (29, .getfield 121, 18, 6, 10, .null, false),
  (32, .ishl, 19, 0, 0, .null, false),
  (33, .if_icmp .ge 7, 20, 22, 0, .null, false),
  (36, .iload_n 1, 21, 1, 0, .null, false),
  (37, .goto 5, 0, 23, 0, .null, false),
  (40, .bipush (-9), 23, 0, 0, .int (-9), false),
  (42, .ireturn, 0, 0, 0, .null, true)]
def q_X6_firstWay : List (List mm_N) := [q_X6_firstWay_0]
def q_X6_standsIn_0 : List mm_N := [(0, .iconst 0, 1, 0, 0, .int 0, false),
  (1, .istore_n 2, 2, 2, 0, .null, false),
  (2, .iconst 0, 3, 0, 0, .int 0, false),
  (3, .istore_n 3, 4, 3, 0, .null, false),
  (4, .iload_n 3, 5, 3, 0, .null, true),
  (5, .iconst 1, 6, 0, 0, .int 1, false),
  (6, .aload_n 0, 7, 0, 0, .null, false),
  (7, .getfield 121, 8, 6, 10, .null, false),
  (10, .ishl, 9, 0, 0, .null, false),
  (11, .if_icmp .ge 33, 10, 26, 0, .null, false),
  (14, .iload_n 2, 11, 2, 0, .null, false),
  (15, .iload_n 3, 12, 3, 0, .null, false),
  (16, .iload_n 1, 13, 1, 0, .null, false),
  (17, .invokestatic 160, 14, 118, 2, .null, false),
  (20, .ifCond .eq 15, 15, 21, 0, .null, false),
  (23, .aload_n 0, 16, 0, 0, .null, false),
  (24, .iload_n 3, 17, 3, 0, .null, false),
  (25, .invokevirtual 173, 18, 161, 2, .null, false),
  (28, .ifCond .eq 7, 19, 21, 0, .null, false),
  (31, .iconst 1, 20, 0, 0, .int 1, false),
  (32, .goto 4, 0, 22, 0, .null, false),
  (35, .iconst 0, 22, 0, 0, .int 0, true),
  (36, .iadd, 23, 0, 0, .null, true),
  (37, .istore_n 2, 24, 2, 0, .null, false),
  (38, .iinc 3 1, 25, 3, 0, .int 1, false),
  (41, .goto (-37), 0, 4, 0, .null, false),
  (44, .iload_n 2, 27, 2, 0, .null, false),
  (45, .ireturn, 0, 0, 0, .null, false)]
def q_X6_standsIn : List (List mm_N) := [q_X6_standsIn_0]
def q_X6_ways_0 : List mm_N := [(0, .aload_n 0, 1, 0, 0, .null, false),
  (1, .invokevirtual 145, 2, 158, 1, .null, false),
  (4, .aload_n 0, 3, 0, 0, .null, false),
  (5, .aload_n 0, 4, 0, 0, .null, false),
  (6, .invokevirtual 176, 5, 164, 1, .null, false),
  (9, .putfield 69, 6, 6, 7, .null, false),
  (12, .aload_n 0, 7, 0, 0, .null, false),
  (13, .invokevirtual 180, 8, 163, 1, .null, false),
  (16, .ireturn, 0, 0, 0, .null, false)]
def q_X6_ways : List (List mm_N) := [q_X6_ways_0]
def q_X6_nth_0 : List mm_N := [(0, .iload_n 1, 1, 1, 0, .null, false),
  (1, .ifCond .ge 5, 2, 4, 0, .null, false),
  (4, .iconst (-1), 3, 0, 0, .int (-1), false),
  (5, .ireturn, 0, 0, 0, .null, false),
  (6, .aload_n 0, 5, 0, 0, .null, false),
  (7, .invokevirtual 145, 6, 158, 1, .null, false),
  (10, .iconst 0, 7, 0, 0, .int 0, false),
  (11, .istore_n 2, 8, 2, 0, .null, false),
  (12, .iconst 0, 9, 0, 0, .int 0, false),
  (13, .istore_n 3, 10, 3, 0, .null, false),
  (14, .iload_n 3, 11, 3, 0, .null, true),
  (15, .iconst 1, 12, 0, 0, .int 1, false),
  (16, .aload_n 0, 13, 0, 0, .null, false),
  (17, .getfield 121, 14, 6, 10, .null, false),
  (20, .ishl, 15, 0, 0, .null, false),
  (21, .if_icmp .ge 27, 16, 28, 0, .null, false),
  (24, .aload_n 0, 17, 0, 0, .null, false),
  (25, .iload_n 3, 18, 3, 0, .null, false),
  (26, .invokevirtual 173, 19, 161, 2, .null, false),
  (29, .ifCond .eq 13, 20, 26, 0, .null, false),
  (32, .iload_n 2, 21, 2, 0, .null, false),
  (33, .iload_n 1, 22, 1, 0, .null, false),
  (34, .if_icmp .ne 5, 23, 25, 0, .null, false),
  (37, .iload_n 3, 24, 3, 0, .null, false),
  (38, .ireturn, 0, 0, 0, .null, false),
  (39, .iinc 2 1, 26, 2, 0, .int 1, false),
  (42, .iinc 3 1, 27, 3, 0, .int 1, true),
  (45, .goto (-31), 0, 10, 0, .null, false),
  (48, .aload_n 0, 29, 0, 0, .null, false),
  (49, .iconst 4, 30, 0, 0, .int 4, false),
  (50, .invokevirtual 80, 31, 120, 2, .null, false),
  (53, .ireturn, 0, 0, 0, .null, false)]
def q_X6_nth : List (List mm_N) := [q_X6_nth_0]
def q_X6_findsSure_0 : List mm_N := [(0, .aload_n 0, 1, 0, 0, .null, false),
  (1, .aload_n 0, 2, 0, 0, .null, false),
  (2, .getfield 157, 3, 6, 19, .null, false),
  (5, .putfield 183, 4, 6, 25, .null, false),
  (8, .aload_n 0, 5, 0, 0, .null, false),
  (9, .aload_n 0, 6, 0, 0, .null, false),
  (10, .getfield 157, 7, 6, 19, .null, false),
  (13, .putfield 186, 8, 6, 26, .null, false),
  (16, .iconst 0, 9, 0, 0, .int 0, false),
  (17, .istore_n 1, 10, 1, 0, .null, false),
  (18, .iconst 0, 11, 0, 0, .int 0, false),
  (19, .istore_n 2, 12, 2, 0, .null, false),
  (20, .iload_n 2, 13, 2, 0, .null, true),
  (21, .iconst 1, 14, 0, 0, .int 1, false),
  (22, .aload_n 0, 15, 0, 0, .null, false),
  (23, .getfield 121, 16, 6, 10, .null, false),
  (26, .ishl, 17, 0, 0, .null, false),
  (27, .if_icmp .ge 41, 18, 40, 0, .null, false),
  (30, .aload_n 0, 19, 0, 0, .null, false),
  (31, .iload_n 2, 20, 2, 0, .null, false),
  (32, .invokevirtual 173, 21, 161, 2, .null, false),
  (35, .ifCond .eq 27, 22, 38, 0, .null, false),
  (38, .aload_n 0, 23, 0, 0, .null, false),
  (39, .dup, 24, 0, 0, .null, false),
  (40, .getfield 183, 25, 6, 25, .null, false),
  (43, .iload_n 2, 26, 2, 0, .null, false),
  (44, .iand, 27, 0, 0, .null, false),
  (45, .putfield 183, 28, 6, 25, .null, false),
  (48, .aload_n 0, 29, 0, 0, .null, false),
  (49, .dup, 30, 0, 0, .null, false),
  (50, .getfield 186, 31, 6, 26, .null, false),
  (53, .iload_n 2, 32, 2, 0, .null, false)]
def q_X6_findsSure_1 : List mm_N := [(54, .iconst (-1), 33, 0, 0, .int (-1), false),
  (55, .ixor, 34, 0, 0, .null, false),
  (56, .iand, 35, 0, 0, .null, false),
  (57, .putfield 186, 36, 6, 26, .null, false),
  (60, .iconst 1, 37, 0, 0, .int 1, false),
  (61, .istore_n 1, 38, 1, 0, .null, false),
  (62, .iinc 2 1, 39, 2, 0, .int 1, true),
  (65, .goto (-45), 0, 12, 0, .null, false),
  (68, .aload_n 0, 41, 0, 0, .null, false),
  (69, .iload_n 1, 42, 1, 0, .null, false),
  (70, .ifCond .eq 10, 43, 46, 0, .null, false),
  (73, .aload_n 0, 44, 0, 0, .null, false),
  (74, .getfield 183, 45, 6, 25, .null, false),
  (77, .goto 4, 0, 47, 0, .null, false),
  (80, .iconst 0, 47, 0, 0, .int 0, false),
  (81, .putfield 183, 48, 6, 25, .null, true),
  (84, .aload_n 0, 49, 0, 0, .null, false),
  (85, .iload_n 1, 50, 1, 0, .null, false),
  (86, .ifCond .eq 10, 51, 54, 0, .null, false),
  (89, .aload_n 0, 52, 0, 0, .null, false),
  (90, .getfield 186, 53, 6, 26, .null, false),
  (93, .goto 4, 0, 55, 0, .null, false),
  (96, .iconst 0, 55, 0, 0, .int 0, false),
  (97, .putfield 186, 56, 6, 26, .null, true),
  (100, .return_, 0, 0, 0, .null, false)]
def q_X6_findsSure : List (List mm_N) := [q_X6_findsSure_0, q_X6_findsSure_1]
def q_X6_sure_0 : List mm_N := [(0, .aload_n 0, 1, 0, 0, .null, false),
  (1, .invokevirtual 145, 2, 158, 1, .null, false),
  (4, .aload_n 0, 3, 0, 0, .null, false),
  (5, .invokevirtual 189, 4, 168, 1, .null, false),
  (8, .aload_n 0, 5, 0, 0, .null, false),
  (9, .aload_n 0, 6, 0, 0, .null, false),
  (10, .getfield 186, 7, 6, 26, .null, false),
  (13, .putfield 69, 8, 6, 7, .null, false),
  (16, .aload_n 0, 9, 0, 0, .null, false),
  (17, .getfield 183, 10, 6, 25, .null, false),
  (20, .ireturn, 0, 0, 0, .null, false)]
def q_X6_sure : List (List mm_N) := [q_X6_sure_0]
def q_X6_odds_0 : List mm_N := [(0, .aload_n 0, 1, 0, 0, .null, false),
  (1, .iload_n 1, 2, 1, 0, .null, false),
  (2, .invokevirtual 135, 3, 143, 2, .null, false),
  (5, .ifCond .ne 5, 4, 6, 0, .null, false),
  (8, .iconst (-1), 5, 0, 0, .int (-1), false),
  (9, .ireturn, 0, 0, 0, .null, false),
  (10, .aload_n 0, 7, 0, 0, .null, false),
  (11, .invokevirtual 145, 8, 158, 1, .null, false),
  (14, .aload_n 0, 9, 0, 0, .null, false),
  (15, .invokevirtual 180, 10, 163, 1, .null, false),
  (18, .istore_n 2, 11, 2, 0, .null, false),
  (19, .iload_n 2, 12, 2, 0, .null, false),
  (20, .ifCond .ne 9, 13, 17, 0, .null, false),
  (23, .aload_n 0, 14, 0, 0, .null, false),
  (24, .iconst 4, 15, 0, 0, .int 4, false),
  (25, .invokevirtual 80, 16, 120, 2, .null, false),
  (28, .ireturn, 0, 0, 0, .null, false),
  (29, .aload_n 0, 18, 0, 0, .null, false),
  (30, .iload_n 1, 19, 1, 0, .null, false),
  (31, .invokevirtual 148, 20, 165, 2, .null, false),
  (34, .istore_n 3, 21, 3, 0, .null, false),
  (35, .iload_n 3, 22, 3, 0, .null, false),
  (36, .istore 4, 23, 4, 0, .null, false),
  (38, .iload_n 2, 24, 2, 0, .null, false),
  (39, .istore 5, 25, 5, 0, .null, false),
  (41, .iload 5, 26, 5, 0, .null, true),
  (43, .ifCond .eq 21, 27, 36, 0, .null, false),
  (46, .iload 4, 28, 4, 0, .null, false),
  (48, .iload 5, 29, 5, 0, .null, false),
  (50, .irem, 30, 0, 0, .null, false),
  (51, .istore 6, 31, 6, 0, .null, false),
  (53, .iload 5, 32, 5, 0, .null, false)]
def q_X6_odds_1 : List mm_N := [(55, .istore 4, 33, 4, 0, .null, false),
  (57, .iload 6, 34, 6, 0, .null, false),
  (59, .istore 5, 35, 5, 0, .null, false),
  (61, .goto (-20), 0, 25, 0, .null, false),
  (64, .aload_n 0, 37, 0, 0, .null, false),
  (65, .iload_n 3, 38, 3, 0, .null, false),
  (66, .iload 4, 39, 4, 0, .null, false),
  (68, .idiv, 40, 0, 0, .null, false),
  (69, .i2l, 41, 0, 0, .null, false),
  (70, .putfield 192, 42, 6, 8, .null, false),
  (73, .aload_n 0, 43, 0, 0, .null, false),
  (74, .iload_n 2, 44, 2, 0, .null, false),
  (75, .iload 4, 45, 4, 0, .null, false),
  (77, .idiv, 46, 0, 0, .null, false),
  (78, .i2l, 47, 0, 0, .null, false),
  (79, .putfield 28, 48, 6, 9, .null, false),
  (82, .iconst 1, 49, 0, 0, .int 1, false),
  (83, .ireturn, 0, 0, 0, .null, false)]
def q_X6_odds : List (List mm_N) := [q_X6_odds_0, q_X6_odds_1]
def q_X6_together_0 : List mm_N := [(0, .aload_n 0, 1, 0, 0, .null, false),
  (1, .iload_n 1, 2, 1, 0, .null, false),
  (2, .invokevirtual 135, 3, 143, 2, .null, false),
  (5, .ifCond .ne 5, 4, 6, 0, .null, false),
  (8, .iconst (-1), 5, 0, 0, .int (-1), false),
  (9, .ireturn, 0, 0, 0, .null, false),
  (10, .aload_n 0, 7, 0, 0, .null, false),
  (11, .invokevirtual 145, 8, 158, 1, .null, false),
  (14, .aload_n 0, 9, 0, 0, .null, false),
  (15, .getfield 157, 10, 6, 19, .null, false),
  (18, .istore_n 2, 11, 2, 0, .null, false),
  (19, .iconst 0, 12, 0, 0, .int 0, false),
  (20, .istore_n 3, 13, 3, 0, .null, false),
  (21, .iconst 0, 14, 0, 0, .int 0, false),
  (22, .istore 4, 15, 4, 0, .null, false),
  (24, .iload 4, 16, 4, 0, .null, true),
  (26, .iconst 1, 17, 0, 0, .int 1, false),
  (27, .aload_n 0, 18, 0, 0, .null, false),
  (28, .getfield 121, 19, 6, 10, .null, false),
  (31, .ishl, 20, 0, 0, .null, false),
  (32, .if_icmp .ge 41, 21, 41, 0, .null, false),
  (35, .aload_n 0, 22, 0, 0, .null, false),
  (36, .iload 4, 23, 4, 0, .null, false),
  (38, .invokevirtual 173, 24, 161, 2, .null, false),
  (41, .ifCond .eq 26, 25, 39, 0, .null, false),
  (44, .iconst 1, 26, 0, 0, .int 1, false),
  (45, .istore_n 3, 27, 3, 0, .null, false),
  (46, .iload_n 2, 28, 2, 0, .null, false),
  (47, .iload 4, 29, 4, 0, .null, false),
  (49, .iload_n 1, 30, 1, 0, .null, false),
  (50, .invokestatic 160, 31, 118, 2, .null, false),
  (53, .ifCond .eq 8, 32, 34, 0, .null, false)]
def q_X6_together_1 : List mm_N := [(56, .iload 4, 33, 4, 0, .null, false),
  (58, .goto 7, 0, 37, 0, .null, false),
  (61, .iload 4, 35, 4, 0, .null, false),
  (63, .iconst (-1), 36, 0, 0, .int (-1), false),
  (64, .ixor, 37, 0, 0, .null, false),
  (65, .iand, 38, 0, 0, .null, true),
  (66, .istore_n 2, 39, 2, 0, .null, false),
  (67, .iinc 4 1, 40, 4, 0, .int 1, true),
  (70, .goto (-46), 0, 15, 0, .null, false),
  (73, .iload_n 3, 42, 3, 0, .null, false),
  (74, .ifCond .eq 7, 43, 45, 0, .null, false),
  (77, .iload_n 2, 44, 2, 0, .null, false),
  (78, .goto 8, 0, 48, 0, .null, false),
  (81, .aload_n 0, 46, 0, 0, .null, false),
  (82, .iconst 4, 47, 0, 0, .int 4, false),
  (83, .invokevirtual 80, 48, 120, 2, .null, false),
  (86, .ireturn, 0, 0, 0, .null, true)]
def q_X6_together : List (List mm_N) := [q_X6_together_0, q_X6_together_1]
def q_X6_upTo_0 : List mm_N := [(0, .aload_n 0, 1, 0, 0, .null, false),
  (1, .invokevirtual 145, 2, 158, 1, .null, false),
  (4, .iconst 0, 3, 0, 0, .int 0, false),
  (5, .istore_n 2, 4, 2, 0, .null, false),
  (6, .iload_n 2, 5, 2, 0, .null, true),
  (7, .aload_n 0, 6, 0, 0, .null, false),
  (8, .getfield 121, 7, 6, 10, .null, false),
  (11, .if_icmp .ge 40, 8, 29, 0, .null, false),
  (14, .aload_n 0, 9, 0, 0, .null, false),
  (15, .dup, 10, 0, 0, .null, false),
  (16, .getfield 157, 11, 6, 19, .null, false),
  (19, .aload_n 0, 12, 0, 0, .null, false),
  (20, .getfield 35, 13, 6, 12, .null, false),
  (23, .iload_n 2, 14, 2, 0, .null, false),
  (24, .iaload, 15, 0, 0, .null, false),
  (25, .iload_n 1, 16, 1, 0, .null, false),
  (26, .if_icmp .le 11, 17, 23, 0, .null, false),
  (29, .iconst 1, 18, 0, 0, .int 1, false),
  (30, .iload_n 2, 19, 2, 0, .null, false),
  (31, .ishl, 20, 0, 0, .null, false),
  (32, .iconst (-1), 21, 0, 0, .int (-1), false),
  (33, .ixor, 22, 0, 0, .null, false),
  (34, .goto 7, 0, 25, 0, .null, false),
  (37, .aload_n 0, 24, 0, 0, .null, false),
  (38, .getfield 157, 25, 6, 19, .null, false),
  (41, .iand, 26, 0, 0, .null, true),
  (42, .putfield 157, 27, 6, 19, .null, false),
  (45, .iinc 2 1, 28, 2, 0, .int 1, false),
  (48, .goto (-42), 0, 4, 0, .null, false),
  (51, .return_, 0, 0, 0, .null, false)]
def q_X6_upTo : List (List mm_N) := [q_X6_upTo_0]
def q_X6_till_0 : List mm_N := [(0, .iload_n 1, 1, 1, 0, .null, false),
  (1, .iconst 0, 2, 0, 0, .int 0, false),
  (2, .bipush 9, 3, 0, 0, .int 9, false),
  (4, .invokestatic 72, 4, 117, 3, .null, false),
  (7, .ifCond .ne 5, 5, 7, 0, .null, false),
  (10, .iconst (-1), 6, 0, 0, .int (-1), false),
  (11, .ireturn, 0, 0, 0, .null, false),
  (12, .aload_n 0, 8, 0, 0, .null, false),
  (13, .iload_n 1, 9, 1, 0, .null, false),
  (14, .invokevirtual 195, 10, 172, 2, .null, false),
  (17, .aload_n 0, 11, 0, 0, .null, false),
  (18, .aload_n 0, 12, 0, 0, .null, false),
  (19, .invokevirtual 176, 13, 164, 1, .null, false),
  (22, .putfield 69, 14, 6, 7, .null, false),
  (25, .aload_n 0, 15, 0, 0, .null, false),
  (26, .invokevirtual 180, 16, 163, 1, .null, false),
  (29, .ireturn, 0, 0, 0, .null, false)]
def q_X6_till : List (List mm_N) := [q_X6_till_0]
def q_X6_flips_0 : List mm_N := [(0, .aload_n 0, 1, 0, 0, .null, false),
  (1, .iload_n 1, 2, 1, 0, .null, false),
  (2, .invokevirtual 135, 3, 143, 2, .null, false),
  (5, .ifCond .ne 5, 4, 6, 0, .null, false),
  (8, .iconst (-1), 5, 0, 0, .int (-1), false),
  (9, .ireturn, 0, 0, 0, .null, false),
  (10, .iconst 0, 7, 0, 0, .int 0, false),
  (11, .istore_n 2, 8, 2, 0, .null, false),
  (12, .iconst 0, 9, 0, 0, .int 0, false),
  (13, .istore_n 3, 10, 3, 0, .null, false),
  (14, .aload_n 0, 11, 0, 0, .null, false),
  (15, .getfield 35, 12, 6, 12, .null, false),
  (18, .iload_n 1, 13, 1, 0, .null, false),
  (19, .iaload, 14, 0, 0, .null, false),
  (20, .istore 4, 15, 4, 0, .null, false),
  (22, .iload 4, 16, 4, 0, .null, true),
  (24, .bipush 10, 17, 0, 0, .int 10, false),
  (26, .if_icmp .ge 87, 18, 60, 0, .null, false),
  (29, .aload_n 0, 19, 0, 0, .null, false),
  (30, .iload 4, 20, 4, 0, .null, false),
  (32, .invokevirtual 195, 21, 172, 2, .null, false),
  (35, .aload_n 0, 22, 0, 0, .null, false),
  (36, .invokevirtual 189, 23, 168, 1, .null, false),
  (39, .aload_n 0, 24, 0, 0, .null, false),
  (40, .getfield 183, 25, 6, 25, .null, false),
  (43, .iload_n 1, 26, 1, 0, .null, false),
  (44, .invokestatic 160, 27, 118, 2, .null, false),
  (47, .ifCond .eq 7, 28, 30, 0, .null, false),
  (50, .iconst 1, 29, 0, 0, .int 1, false),
  (51, .goto 19, 0, 38, 0, .null, false),
  (54, .aload_n 0, 31, 0, 0, .null, false),
  (55, .getfield 186, 32, 6, 26, .null, false)]
def q_X6_flips_1 : List mm_N := [(58, .iload_n 1, 33, 1, 0, .null, false),
  (59, .invokestatic 160, 34, 118, 2, .null, false),
  (62, .ifCond .eq 7, 35, 37, 0, .null, false),
  (65, .iconst (-1), 36, 0, 0, .int (-1), false),
  (66, .goto 4, 0, 38, 0, .null, false),
  (69, .iconst 0, 38, 0, 0, .int 0, false),
  (70, .istore 5, 39, 5, 0, .null, true),
  (72, .iload_n 2, 40, 2, 0, .null, false),
  (73, .iload 5, 41, 5, 0, .null, false),
  (75, .ifCond .eq 17, 42, 49, 0, .null, false),
  (78, .iload_n 3, 43, 3, 0, .null, false),
  (79, .ifCond .eq 13, 44, 49, 0, .null, false),
  (82, .iload 5, 45, 5, 0, .null, false),
  (84, .iload_n 3, 46, 3, 0, .null, false),
  (85, .if_icmp .eq 7, 47, 49, 0, .null, false),
  (88, .iconst 1, 48, 0, 0, .int 1, false),
  (89, .goto 4, 0, 50, 0, .null, false),
  (92, .iconst 0, 50, 0, 0, .int 0, true),
  (93, .iadd, 51, 0, 0, .null, true),
  (94, .istore_n 2, 52, 2, 0, .null, false),
  (95, .iload 5, 53, 5, 0, .null, false),
  (97, .ifCond .ne 7, 54, 56, 0, .null, false),
  (100, .iload_n 3, 55, 3, 0, .null, false),
  (101, .goto 5, 0, 57, 0, .null, false),
  (104, .iload 5, 57, 5, 0, .null, false),
  (106, .istore_n 3, 58, 3, 0, .null, true),
  (107, .iinc 4 1, 59, 4, 0, .int 1, false),
  (110, .goto (-88), 0, 15, 0, .null, false),
  (113, .iload_n 2, 61, 2, 0, .null, false),
  (114, .ireturn, 0, 0, 0, .null, false)]
def q_X6_flips : List (List mm_N) := [q_X6_flips_0, q_X6_flips_1]
def q_X6_jam_0 : List mm_N := [(0, .iconst 0, 1, 0, 0, .int 0, false),
  (1, .istore_n 1, 2, 1, 0, .null, false),
  (2, .iload_n 1, 3, 1, 0, .null, true),
  (3, .bipush 10, 4, 0, 0, .int 10, false),
  (5, .if_icmp .ge 25, 5, 16, 0, .null, false),
  (8, .aload_n 0, 6, 0, 0, .null, false),
  (9, .iload_n 1, 7, 1, 0, .null, false),
  (10, .invokevirtual 195, 8, 172, 2, .null, false),
  (13, .aload_n 0, 9, 0, 0, .null, false),
  (14, .invokevirtual 176, 10, 164, 1, .null, false),
  (17, .bipush (-9), 11, 0, 0, .int (-9), false),
  (19, .if_icmp .ne 5, 12, 14, 0, .null, false),
  (22, .iload_n 1, 13, 1, 0, .null, false),
  (23, .ireturn, 0, 0, 0, .null, false),
  (24, .iinc 1 1, 15, 1, 0, .int 1, false),
  (27, .goto (-25), 0, 2, 0, .null, false),
  (30, .bipush (-9), 17, 0, 0, .int (-9), false),
  (32, .ireturn, 0, 0, 0, .null, false)]
def q_X6_jam : List (List mm_N) := [q_X6_jam_0]
def q_X6_isReached_0 : List mm_N := [(0, .iload_n 2, 1, 2, 0, .null, false),
  (1, .iconst 2, 2, 0, 0, .int 2, false),
  (2, .if_icmp .ne 17, 3, 11, 0, .null, false),
  (5, .aload_n 0, 4, 0, 0, .null, false),
  (6, .invokevirtual 180, 5, 163, 1, .null, false),
  (9, .iconst 1, 6, 0, 0, .int 1, false),
  (10, .if_icmp .ne 7, 7, 9, 0, .null, false),
  (13, .iconst 1, 8, 0, 0, .int 1, false),
  (14, .goto 4, 0, 10, 0, .null, false),
  (17, .iconst 0, 10, 0, 0, .int 0, false),
  (18, .ireturn, 0, 0, 0, .null, true),
  (19, .aload_n 0, 12, 0, 0, .null, false),
  (20, .invokevirtual 189, 13, 168, 1, .null, false),
  (23, .iload_n 2, 14, 2, 0, .null, false),
  (24, .ifCond .ne 10, 15, 18, 0, .null, false),
  (27, .aload_n 0, 16, 0, 0, .null, false),
  (28, .getfield 186, 17, 6, 26, .null, false),
  (31, .goto 7, 0, 20, 0, .null, false),
  (34, .aload_n 0, 19, 0, 0, .null, false),
  (35, .getfield 183, 20, 6, 25, .null, false),
  (38, .iload_n 1, 21, 1, 0, .null, true),
  (39, .invokestatic 160, 22, 118, 2, .null, false),
  (42, .ireturn, 0, 0, 0, .null, false)]
def q_X6_isReached : List (List mm_N) := [q_X6_isReached_0]
def q_X6_power_0 : List mm_N := [(0, .iconst 1, 1, 0, 0, .int 1, false),
  (1, .istore_n 2, 2, 2, 0, .null, false),
  (2, .iconst 0, 3, 0, 0, .int 0, false),
  (3, .istore_n 3, 4, 3, 0, .null, false),
  (4, .iload_n 3, 5, 3, 0, .null, true),
  (5, .iload_n 1, 6, 1, 0, .null, false),
  (6, .if_icmp .ge 13, 7, 13, 0, .null, false),
  (9, .iload_n 2, 8, 2, 0, .null, false),
  (10, .iload_n 0, 9, 0, 0, .null, false),
  (11, .imul, 10, 0, 0, .null, false),
  (12, .istore_n 2, 11, 2, 0, .null, false),
  (13, .iinc 3 1, 12, 3, 0, .int 1, false),
  (16, .goto (-12), 0, 4, 0, .null, false),
  (19, .iload_n 2, 14, 2, 0, .null, false),
  (20, .ireturn, 0, 0, 0, .null, false)]
def q_X6_power : List (List mm_N) := [q_X6_power_0]
def q_X6_strikes_0 : List mm_N := [(0, .aload_n 0, 1, 0, 0, .null, false),
  (1, .invokevirtual 145, 2, 158, 1, .null, false),
  (4, .iload_n 1, 3, 1, 0, .null, false),
  (5, .istore_n 3, 4, 3, 0, .null, false),
  (6, .aload_n 0, 5, 0, 0, .null, false),
  (7, .getfield 121, 6, 6, 10, .null, false),
  (10, .istore 4, 7, 4, 0, .null, false),
  (12, .iconst 1, 8, 0, 0, .int 1, false),
  (13, .istore 5, 9, 5, 0, .null, false),
  (15, .iconst 0, 10, 0, 0, .int 0, false),
  (16, .istore 6, 11, 6, 0, .null, false),
  (18, .iload 6, 12, 6, 0, .null, true),
  (20, .iload_n 2, 13, 2, 0, .null, false),
  (21, .if_icmp .ge 58, 14, 45, 0, .null, false),
  (24, .iload_n 3, 15, 3, 0, .null, false),
  (25, .aload_n 0, 16, 0, 0, .null, false),
  (26, .getfield 121, 17, 6, 10, .null, false),
  (29, .irem, 18, 0, 0, .null, false),
  (30, .istore 7, 19, 7, 0, .null, false),
  (32, .iload 5, 20, 5, 0, .null, false),
  (34, .ifCond .eq 14, 21, 26, 0, .null, false),
  (37, .iload 7, 22, 7, 0, .null, false),
  (39, .iload 4, 23, 4, 0, .null, false),
  (41, .if_icmp .gt 7, 24, 26, 0, .null, false),
  (44, .iconst 1, 25, 0, 0, .int 1, false),
  (45, .goto 4, 0, 27, 0, .null, false),
  (48, .iconst 0, 27, 0, 0, .int 0, true),
  (49, .istore 5, 28, 5, 0, .null, true),
  (51, .aload_n 0, 29, 0, 0, .null, false),
  (52, .getfield 56, 30, 6, 20, .null, false),
  (55, .iload 7, 31, 7, 0, .null, false),
  (57, .dup2, 32, 0, 0, .null, false)]
def q_X6_strikes_1 : List mm_N := [(58, .iaload, 33, 0, 0, .null, false),
  (59, .iconst 1, 34, 0, 0, .int 1, false),
  (60, .iadd, 35, 0, 0, .null, false),
  (61, .iastore, 36, 0, 0, .null, false),
  (62, .iload 7, 37, 7, 0, .null, false),
  (64, .istore 4, 38, 4, 0, .null, false),
  (66, .iload_n 3, 39, 3, 0, .null, false),
  (67, .aload_n 0, 40, 0, 0, .null, false),
  (68, .getfield 121, 41, 6, 10, .null, false),
  (71, .idiv, 42, 0, 0, .null, false),
  (72, .istore_n 3, 43, 3, 0, .null, false),
  (73, .iinc 6 1, 44, 6, 0, .int 1, false),
  (76, .goto (-58), 0, 11, 0, .null, false),
  (79, .iload 5, 46, 5, 0, .null, false),
  (81, .ireturn, 0, 0, 0, .null, false)]
def q_X6_strikes : List (List mm_N) := [q_X6_strikes_0, q_X6_strikes_1]
def q_X6_files_0 : List mm_N := [(0, .iconst 0, 1, 0, 0, .int 0, false),
  (1, .istore 4, 2, 4, 0, .null, false),
  (3, .iload 4, 3, 4, 0, .null, true),
  (5, .iconst 4, 4, 0, 0, .int 4, false),
  (6, .if_icmp .ge 112, 5, 61, 0, .null, false),
  (9, .iconst 0, 6, 0, 0, .int 0, false),
  (10, .istore 5, 7, 5, 0, .null, false),
  (12, .iload 5, 8, 5, 0, .null, true),
  (14, .aload_n 0, 9, 0, 0, .null, false),
  (15, .getfield 121, 10, 6, 10, .null, false),
  (18, .iload 4, 11, 4, 0, .null, false),
  (20, .invokestatic 198, 12, 177, 2, .null, false),
  (23, .if_icmp .ge 89, 13, 59, 0, .null, false),
  (26, .aload_n 0, 14, 0, 0, .null, false),
  (27, .iload 5, 15, 5, 0, .null, false),
  (29, .iload 4, 16, 4, 0, .null, false),
  (31, .invokevirtual 201, 17, 178, 3, .null, false),
  (34, .ifCond .eq 72, 18, 57, 0, .null, false),
  (37, .aload_n 0, 19, 0, 0, .null, false),
  (38, .iload_n 1, 20, 1, 0, .null, false),
  (39, .iload_n 3, 21, 3, 0, .null, false),
  (40, .invokevirtual 204, 22, 176, 3, .null, false),
  (43, .ifCond .eq 63, 23, 57, 0, .null, false),
  (46, .aload_n 0, 24, 0, 0, .null, false),
  (47, .iload_n 2, 25, 2, 0, .null, false),
  (48, .iload 4, 26, 4, 0, .null, false),
  (50, .invokevirtual 207, 27, 124, 3, .null, false),
  (53, .pop, 28, 0, 0, .null, false),
  (54, .iload 5, 29, 5, 0, .null, false),
  (56, .istore 6, 30, 6, 0, .null, false),
  (58, .iload 4, 31, 4, 0, .null, false),
  (60, .iconst 1, 32, 0, 0, .int 1, false)]
def q_X6_files_1 : List mm_N := [(61, .isub, 33, 0, 0, .null, false),
  (62, .istore 7, 34, 7, 0, .null, false),
  (64, .iload 7, 35, 7, 0, .null, true),
  (66, .ifCond .lt 37, 36, 55, 0, .null, false),
  (69, .aload_n 0, 37, 0, 0, .null, false),
  (70, .getfield 13, 38, 6, 1, .null, false),
  (73, .bipush 40, 39, 0, 0, .int 40, false),
  (75, .iload_n 2, 40, 2, 0, .null, false),
  (76, .imul, 41, 0, 0, .null, false),
  (77, .iload 7, 42, 7, 0, .null, false),
  (79, .iadd, 43, 0, 0, .null, false),
  (80, .iload 6, 44, 6, 0, .null, false),
  (82, .aload_n 0, 45, 0, 0, .null, false),
  (83, .getfield 121, 46, 6, 10, .null, false),
  (86, .irem, 47, 0, 0, .null, false),
  (87, .iastore, 48, 0, 0, .null, false),
  (88, .iload 6, 49, 6, 0, .null, false),
  (90, .aload_n 0, 50, 0, 0, .null, false),
  (91, .getfield 121, 51, 6, 10, .null, false),
  (94, .idiv, 52, 0, 0, .null, false),
  (95, .istore 6, 53, 6, 0, .null, false),
  (97, .iinc 7 (-1), 54, 7, 0, .int (-1), false),
  (100, .goto (-36), 0, 34, 0, .null, false),
  (103, .iload 4, 56, 4, 0, .null, false),
  (105, .ireturn, 0, 0, 0, .null, false),
  (106, .iinc 5 1, 58, 5, 0, .int 1, true),
  (109, .goto (-97), 0, 7, 0, .null, false),
  (112, .iinc 4 1, 60, 4, 0, .int 1, false),
  (115, .goto (-112), 0, 2, 0, .null, false),
  (118, .bipush (-9), 62, 0, 0, .int (-9), false),
  (120, .ireturn, 0, 0, 0, .null, false)]
def q_X6_files : List (List mm_N) := [q_X6_files_0, q_X6_files_1]
def q_X6_fell_0 : List mm_N := [(0, .aload_n 0, 1, 0, 0, .null, false),
  (1, .iload_n 1, 2, 1, 0, .null, false),
  (2, .invokevirtual 135, 3, 143, 2, .null, false),
  (5, .ifCond .eq 20, 4, 13, 0, .null, false),
  (8, .iload_n 2, 5, 2, 0, .null, false),
  (9, .invokestatic 76, 6, 122, 1, .null, false),
  (12, .ifCond .eq 13, 7, 13, 0, .null, false),
  (15, .aload_n 0, 8, 0, 0, .null, false),
  (16, .iload_n 1, 9, 1, 0, .null, false),
  (17, .iload_n 2, 10, 2, 0, .null, false),
  (18, .iconst 0, 11, 0, 0, .int 0, false),
  (19, .invokevirtual 210, 12, 179, 4, .null, false),
  (22, .goto 4, 0, 14, 0, .null, false),
  (25, .iconst (-1), 14, 0, 0, .int (-1), true),
  (26, .ireturn, 0, 0, 0, .null, true)]
def q_X6_fell : List (List mm_N) := [q_X6_fell_0]
def q_X6_guard_0 : List mm_N := [(0, .aload_n 0, 1, 0, 0, .null, false),
  (1, .iload_n 1, 2, 1, 0, .null, false),
  (2, .invokevirtual 135, 3, 143, 2, .null, false),
  (5, .ifCond .eq 20, 4, 13, 0, .null, false),
  (8, .iload_n 2, 5, 2, 0, .null, false),
  (9, .invokestatic 76, 6, 122, 1, .null, false),
  (12, .ifCond .eq 13, 7, 13, 0, .null, false),
  (15, .aload_n 0, 8, 0, 0, .null, false),
  (16, .iload_n 1, 9, 1, 0, .null, false),
  (17, .iload_n 2, 10, 2, 0, .null, false),
  (18, .iconst 1, 11, 0, 0, .int 1, false),
  (19, .invokevirtual 210, 12, 179, 4, .null, false),
  (22, .goto 4, 0, 14, 0, .null, false),
  (25, .iconst (-1), 14, 0, 0, .int (-1), true),
  (26, .ireturn, 0, 0, 0, .null, true)]
def q_X6_guard : List (List mm_N) := [q_X6_guard_0]
def q_X6_settle_0 : List mm_N := [(0, .iload_n 1, 1, 1, 0, .null, false),
  (1, .invokestatic 76, 2, 122, 1, .null, false),
  (4, .ifCond .eq 14, 3, 9, 0, .null, false),
  (7, .aload_n 0, 4, 0, 0, .null, false),
  (8, .bipush (-9), 5, 0, 0, .int (-9), false),
  (10, .iload_n 1, 6, 1, 0, .null, false),
  (11, .iconst 2, 7, 0, 0, .int 2, false),
  (12, .invokevirtual 210, 8, 179, 4, .null, false),
  (15, .goto 4, 0, 10, 0, .null, false),
  (18, .iconst (-1), 10, 0, 0, .int (-1), false),
  (19, .ireturn, 0, 0, 0, .null, true)]
def q_X6_settle : List (List mm_N) := [q_X6_settle_0]
def q_X6_otherwise_0 : List mm_N := [(0, .aload_n 0, 1, 0, 0, .null, false),
  (1, .invokevirtual 145, 2, 158, 1, .null, false),
  (4, .aload_n 0, 3, 0, 0, .null, false),
  (5, .invokevirtual 189, 4, 168, 1, .null, false),
  (8, .aload_n 0, 5, 0, 0, .null, false),
  (9, .getfield 183, 6, 6, 25, .null, false),
  (12, .istore_n 2, 7, 2, 0, .null, false),
  (13, .aload_n 0, 8, 0, 0, .null, false),
  (14, .getfield 186, 9, 6, 26, .null, false),
  (17, .istore_n 3, 10, 3, 0, .null, false),
  (18, .aload_n 0, 11, 0, 0, .null, false),
  (19, .dup, 12, 0, 0, .null, false),
  (20, .getfield 157, 13, 6, 19, .null, false),
  (23, .iload_n 1, 14, 1, 0, .null, false),
  (24, .iconst (-1), 15, 0, 0, .int (-1), false),
  (25, .ixor, 16, 0, 0, .null, false),
  (26, .iand, 17, 0, 0, .null, false),
  (27, .putfield 157, 18, 6, 19, .null, false),
  (30, .aload_n 0, 19, 0, 0, .null, false),
  (31, .invokevirtual 189, 20, 168, 1, .null, false),
  (34, .iload_n 2, 21, 2, 0, .null, false),
  (35, .aload_n 0, 22, 0, 0, .null, false),
  (36, .getfield 183, 23, 6, 25, .null, false),
  (39, .ixor, 24, 0, 0, .null, false),
  (40, .iload_n 3, 25, 3, 0, .null, false),
  (41, .aload_n 0, 26, 0, 0, .null, false),
  (42, .getfield 186, 27, 6, 26, .null, false),
  (45, .ixor, 28, 0, 0, .null, false),
  (46, .ior, 29, 0, 0, .null, false),
  (47, .aload_n 0, 30, 0, 0, .null, false),
  (48, .getfield 157, 31, 6, 19, .null, false),
  (51, .iand, 32, 0, 0, .null, false)]
def q_X6_otherwise_1 : List mm_N := [(52, .invokestatic 213, 33, 119, 1, .null, false),
  (55, .ireturn, 0, 0, 0, .null, false)]
def q_X6_otherwise : List (List mm_N) := [q_X6_otherwise_0, q_X6_otherwise_1]
def q_X6_matter_0 : List mm_N := [(0, .aload_n 0, 1, 0, 0, .null, false),
  (1, .iload_n 1, 2, 1, 0, .null, false),
  (2, .invokevirtual 135, 3, 143, 2, .null, false),
  (5, .ifCond .eq 13, 4, 10, 0, .null, false),
  (8, .aload_n 0, 5, 0, 0, .null, false),
  (9, .iconst 1, 6, 0, 0, .int 1, false),
  (10, .iload_n 1, 7, 1, 0, .null, false),
  (11, .ishl, 8, 0, 0, .null, false),
  (12, .invokevirtual 216, 9, 183, 2, .null, false),
  (15, .goto 4, 0, 11, 0, .null, false),
  (18, .iconst (-1), 11, 0, 0, .int (-1), false),
  (19, .ireturn, 0, 0, 0, .null, true)]
def q_X6_matter : List (List mm_N) := [q_X6_matter_0]
def q_X6_judge_0 : List mm_N := [(0, .aload_n 0, 1, 0, 0, .null, false),
  (1, .getfield 121, 2, 6, 10, .null, false),
  (4, .ifCond .ne 6, 3, 5, 0, .null, false),
  (7, .bipush (-4), 4, 0, 0, .int (-4), false),
  (9, .ireturn, 0, 0, 0, .null, false),
  (10, .bipush (-9), 6, 0, 0, .int (-9), false),
  (12, .istore_n 1, 7, 1, 0, .null, false),
  (13, .bipush (-9), 8, 0, 0, .int (-9), false),
  (15, .istore_n 2, 9, 2, 0, .null, false),
  (16, .iconst 0, 10, 0, 0, .int 0, false),
  (17, .istore_n 3, 11, 3, 0, .null, false),
  (18, .iload_n 3, 12, 3, 0, .null, true),
  (19, .bipush 10, 13, 0, 0, .int 10, false),
  (21, .if_icmp .ge 97, 14, 62, 0, .null, false),
  (24, .iconst 0, 15, 0, 0, .int 0, false),
  (25, .istore 4, 16, 4, 0, .null, false),
  (27, .iconst 0, 17, 0, 0, .int 0, false),
  (28, .istore 5, 18, 5, 0, .null, false),
  (30, .iload 5, 19, 5, 0, .null, true),
  (32, .aload_n 0, 20, 0, 0, .null, false),
  (33, .getfield 121, 21, 6, 10, .null, false),
  (36, .if_icmp .ge 33, 22, 38, 0, .null, false),
  (39, .iload 4, 23, 4, 0, .null, false),
  (41, .aload_n 0, 24, 0, 0, .null, false),
  (42, .getfield 35, 25, 6, 12, .null, false),
  (45, .iload 5, 26, 5, 0, .null, false),
  (47, .iaload, 27, 0, 0, .null, false),
  (48, .iload_n 3, 28, 3, 0, .null, false),
  (49, .if_icmp .ne 10, 29, 33, 0, .null, false),
  (52, .iconst 1, 30, 0, 0, .int 1, false),
  (53, .iload 5, 31, 5, 0, .null, false),
  (55, .ishl, 32, 0, 0, .null, false)]
def q_X6_judge_1 : List mm_N := [(56, .goto 4, 0, 34, 0, .null, false),
  (59, .iconst 0, 34, 0, 0, .int 0, false),
  (60, .ior, 35, 0, 0, .null, true),
  (61, .istore 4, 36, 4, 0, .null, false),
  (63, .iinc 5 1, 37, 5, 0, .int 1, false),
  (66, .goto (-36), 0, 18, 0, .null, false),
  (69, .iload 4, 39, 4, 0, .null, false),
  (71, .ifCond .ne 8, 40, 42, 0, .null, false),
  (74, .bipush (-9), 41, 0, 0, .int (-9), false),
  (76, .goto 9, 0, 45, 0, .null, false),
  (79, .aload_n 0, 43, 0, 0, .null, false),
  (80, .iload 4, 44, 4, 0, .null, false),
  (82, .invokevirtual 216, 45, 183, 2, .null, false),
  (85, .istore 5, 46, 5, 0, .null, true),
  (87, .iload 5, 47, 5, 0, .null, false),
  (89, .iload_n 2, 48, 2, 0, .null, false),
  (90, .if_icmp .le 7, 49, 51, 0, .null, false),
  (93, .iload_n 3, 50, 3, 0, .null, false),
  (94, .goto 4, 0, 52, 0, .null, false),
  (97, .iload_n 1, 52, 1, 0, .null, false),
  (98, .istore_n 1, 53, 1, 0, .null, true),
  (99, .iload 5, 54, 5, 0, .null, false),
  (101, .iload_n 2, 55, 2, 0, .null, false),
  (102, .if_icmp .le 8, 56, 58, 0, .null, false),
  (105, .iload 5, 57, 5, 0, .null, false),
  (107, .goto 4, 0, 59, 0, .null, false),
  (110, .iload_n 2, 59, 2, 0, .null, false),
  (111, .istore_n 2, 60, 2, 0, .null, true),
  (112, .iinc 3 1, 61, 3, 0, .int 1, false),
  (115, .goto (-97), 0, 11, 0, .null, false),
  (118, .aload_n 0, 63, 0, 0, .null, false),
  (119, .iload_n 2, 64, 2, 0, .null, false)]
def q_X6_judge_2 : List mm_N := [(120, .putfield 69, 65, 6, 7, .null, false),
  (123, .iload_n 1, 66, 1, 0, .null, false),
  (124, .ireturn, 0, 0, 0, .null, false)]
def q_X6_judge : List (List mm_N) := [q_X6_judge_0, q_X6_judge_1, q_X6_judge_2]
def q_X6_likeness_0 : List mm_N := [(0, .iconst 2, 1, 0, 0, .int 2, false),
  (1, .iload_n 0, 2, 0, 0, .null, false),
  (2, .iload_n 1, 3, 1, 0, .null, false),
  (3, .iand, 4, 0, 0, .null, false),
  (4, .invokestatic 213, 5, 119, 1, .null, false),
  (7, .imul, 6, 0, 0, .null, false),
  (8, .iload_n 0, 7, 0, 0, .null, false),
  (9, .iload_n 1, 8, 1, 0, .null, false),
  (10, .ixor, 9, 0, 0, .null, false),
  (11, .invokestatic 213, 10, 119, 1, .null, false),
  (14, .isub, 11, 0, 0, .null, false),
  (15, .ireturn, 0, 0, 0, .null, false)]
def q_X6_likeness : List (List mm_N) := [q_X6_likeness_0]
def q_X6_like_0 : List mm_N := [(0, .aload_n 0, 1, 0, 0, .null, false),
  (1, .iload_n 1, 2, 1, 0, .null, false),
  (2, .invokevirtual 135, 3, 143, 2, .null, false),
  (5, .ifCond .eq 30, 4, 18, 0, .null, false),
  (8, .iload_n 2, 5, 2, 0, .null, false),
  (9, .iconst 0, 6, 0, 0, .int 0, false),
  (10, .bipush 31, 7, 0, 0, .int 31, false),
  (12, .invokestatic 72, 8, 117, 3, .null, false),
  (15, .ifCond .eq 20, 9, 18, 0, .null, false),
  (18, .aload_n 0, 10, 0, 0, .null, false),
  (19, .aload_n 0, 11, 0, 0, .null, false),
  (20, .getfield 47, 12, 6, 16, .null, false),
  (23, .iload_n 1, 13, 1, 0, .null, false),
  (24, .iaload, 14, 0, 0, .null, false),
  (25, .iload_n 2, 15, 2, 0, .null, false),
  (26, .invokestatic 219, 16, 186, 2, .null, false),
  (29, .invokevirtual 84, 17, 121, 2, .null, false),
  (32, .goto 4, 0, 19, 0, .null, false),
  (35, .iconst (-1), 19, 0, 0, .int (-1), true),
  (36, .ireturn, 0, 0, 0, .null, true)]
def q_X6_like : List (List mm_N) := [q_X6_like_0]
def q_X6_verdictBy_0 : List mm_N := [(0, .bipush (-9), 1, 0, 0, .int (-9), false),
  (2, .istore 4, 2, 4, 0, .null, false),
  (4, .iconst 0, 3, 0, 0, .int 0, false),
  (5, .istore 5, 4, 5, 0, .null, false),
  (7, .iload 5, 5, 5, 0, .null, true),
  (9, .aload_n 0, 6, 0, 0, .null, false),
  (10, .getfield 121, 7, 6, 10, .null, false),
  (13, .if_icmp .ge 122, 8, 69, 0, .null, false),
  (16, .iload_n 2, 9, 2, 0, .null, false),
  (17, .iload 5, 10, 5, 0, .null, false),
  (19, .invokestatic 160, 11, 118, 2, .null, false),
  (22, .ifCond .eq 107, 12, 67, 0, .null, false),
  (25, .aload_n 0, 13, 0, 0, .null, false),
  (26, .getfield 47, 14, 6, 16, .null, false),
  (29, .iload 5, 15, 5, 0, .null, false),
  (31, .iaload, 16, 0, 0, .null, false),
  (32, .iload_n 3, 17, 3, 0, .null, false),
  (33, .iand, 18, 0, 0, .null, false),
  (34, .iload_n 1, 19, 1, 0, .null, false),
  (35, .iload_n 3, 20, 3, 0, .null, false),
  (36, .iand, 21, 0, 0, .null, false),
  (37, .invokestatic 219, 22, 186, 2, .null, false),
  (40, .istore 6, 23, 6, 0, .null, false),
  (42, .iload 4, 24, 4, 0, .null, false),
  (44, .bipush (-9), 25, 0, 0, .int (-9), false),
  (46, .if_icmp .ne 7, 26, 28, 0, .null, false),
  (49, .iconst 0, 27, 0, 0, .int 0, false),
  (50, .goto 18, 0, 38, 0, .null, false),
  (53, .aload_n 0, 29, 0, 0, .null, false),
  (54, .getfield 47, 30, 6, 16, .null, false),
  (57, .iload 4, 31, 4, 0, .null, false),
  (59, .iaload, 32, 0, 0, .null, false)]
def q_X6_verdictBy_1 : List mm_N := [(60, .iload_n 3, 33, 3, 0, .null, false),
  (61, .iand, 34, 0, 0, .null, false),
  (62, .iload_n 1, 35, 1, 0, .null, false),
  (63, .iload_n 3, 36, 3, 0, .null, false),
  (64, .iand, 37, 0, 0, .null, false),
  (65, .invokestatic 219, 38, 186, 2, .null, false),
  (68, .istore 7, 39, 7, 0, .null, true),
  (70, .iload 4, 40, 4, 0, .null, false),
  (72, .bipush (-9), 41, 0, 0, .int (-9), false),
  (74, .if_icmp .eq 34, 42, 57, 0, .null, false),
  (77, .iload 6, 43, 6, 0, .null, false),
  (79, .iload 7, 44, 7, 0, .null, false),
  (81, .if_icmp .gt 27, 45, 57, 0, .null, false),
  (84, .iload 6, 46, 6, 0, .null, false),
  (86, .iload 7, 47, 7, 0, .null, false),
  (88, .if_icmp .ne 24, 48, 59, 0, .null, false),
  (91, .aload_n 0, 49, 0, 0, .null, false),
  (92, .getfield 35, 50, 6, 12, .null, false),
  (95, .iload 5, 51, 5, 0, .null, false),
  (97, .iaload, 52, 0, 0, .null, false),
  (98, .aload_n 0, 53, 0, 0, .null, false),
  (99, .getfield 35, 54, 6, 12, .null, false),
  (102, .iload 4, 55, 4, 0, .null, false),
  (104, .iaload, 56, 0, 0, .null, false),
  (105, .if_icmp .lt 7, 57, 59, 0, .null, false),
  (108, .iconst 1, 58, 0, 0, .int 1, true),
  (109, .goto 4, 0, 60, 0, .null, false),
  (112, .iconst 0, 60, 0, 0, .int 0, true),
  (113, .istore 8, 61, 8, 0, .null, true),
  (115, .iload 8, 62, 8, 0, .null, false),
  (117, .ifCond .eq 8, 63, 65, 0, .null, false),
  (120, .iload 5, 64, 5, 0, .null, false)]
def q_X6_verdictBy_2 : List mm_N := [(122, .goto 5, 0, 66, 0, .null, false),
  (125, .iload 4, 66, 4, 0, .null, false),
  (127, .istore 4, 67, 4, 0, .null, true),
  (129, .iinc 5 1, 68, 5, 0, .int 1, true),
  (132, .goto (-125), 0, 4, 0, .null, false),
  (135, .iload 4, 70, 4, 0, .null, false),
  (137, .bipush (-9), 71, 0, 0, .int (-9), false),
  (139, .if_icmp .ne 7, 72, 74, 0, .null, false),
  (142, .iconst 0, 73, 0, 0, .int 0, false),
  (143, .goto 10, 0, 78, 0, .null, false),
  (146, .aload_n 0, 75, 0, 0, .null, false),
  (147, .getfield 38, 76, 6, 13, .null, false),
  (150, .iload 4, 77, 4, 0, .null, false),
  (152, .iaload, 78, 0, 0, .null, false),
  (153, .ireturn, 0, 0, 0, .null, true)]
def q_X6_verdictBy : List (List mm_N) := [q_X6_verdictBy_0, q_X6_verdictBy_1, q_X6_verdictBy_2]
def q_X6_verdict_0 : List mm_N := [(0, .iload_n 1, 1, 1, 0, .null, false),
  (1, .iconst 0, 2, 0, 0, .int 0, false),
  (2, .bipush 31, 3, 0, 0, .int 31, false),
  (4, .invokestatic 72, 4, 117, 3, .null, false),
  (7, .ifCond .eq 22, 5, 15, 0, .null, false),
  (10, .aload_n 0, 6, 0, 0, .null, false),
  (11, .iload_n 2, 7, 2, 0, .null, false),
  (12, .invokevirtual 170, 8, 144, 2, .null, false),
  (15, .ifCond .eq 14, 9, 15, 0, .null, false),
  (18, .aload_n 0, 10, 0, 0, .null, false),
  (19, .iload_n 1, 11, 1, 0, .null, false),
  (20, .iload_n 2, 12, 2, 0, .null, false),
  (21, .bipush 31, 13, 0, 0, .int 31, false),
  (23, .invokevirtual 222, 14, 188, 4, .null, false),
  (26, .goto 4, 0, 16, 0, .null, false),
  (29, .iconst (-1), 16, 0, 0, .int (-1), true),
  (30, .ireturn, 0, 0, 0, .null, true)]
def q_X6_verdict : List (List mm_N) := [q_X6_verdict_0]
def q_X6_surely_0 : List mm_N := [(0, .iload_n 1, 1, 1, 0, .null, false),
  (1, .iconst 0, 2, 0, 0, .int 0, false),
  (2, .bipush 31, 3, 0, 0, .int 31, false),
  (4, .invokestatic 72, 4, 117, 3, .null, false),
  (7, .ifCond .ne 5, 5, 7, 0, .null, false),
  (10, .iconst (-1), 6, 0, 0, .int (-1), false),
  (11, .ireturn, 0, 0, 0, .null, false),
  (12, .aload_n 0, 8, 0, 0, .null, false),
  (13, .invokevirtual 145, 9, 158, 1, .null, false),
  (16, .iconst 0, 10, 0, 0, .int 0, false),
  (17, .istore_n 2, 11, 2, 0, .null, false),
  (18, .iconst 0, 12, 0, 0, .int 0, false),
  (19, .istore_n 3, 13, 3, 0, .null, false),
  (20, .iconst 0, 14, 0, 0, .int 0, false),
  (21, .istore 4, 15, 4, 0, .null, false),
  (23, .iload 4, 16, 4, 0, .null, true),
  (25, .iconst 1, 17, 0, 0, .int 1, false),
  (26, .aload_n 0, 18, 0, 0, .null, false),
  (27, .getfield 121, 19, 6, 10, .null, false),
  (30, .ishl, 20, 0, 0, .null, false),
  (31, .if_icmp .ge 33, 21, 36, 0, .null, false),
  (34, .aload_n 0, 22, 0, 0, .null, false),
  (35, .iload 4, 23, 4, 0, .null, false),
  (37, .invokevirtual 173, 24, 161, 2, .null, false),
  (40, .ifCond .eq 18, 25, 34, 0, .null, false),
  (43, .iinc 2 1, 26, 2, 0, .int 1, false),
  (46, .iload_n 3, 27, 3, 0, .null, false),
  (47, .aload_n 0, 28, 0, 0, .null, false),
  (48, .iload_n 1, 29, 1, 0, .null, false),
  (49, .iload 4, 30, 4, 0, .null, false),
  (51, .bipush 31, 31, 0, 0, .int 31, false),
  (53, .invokevirtual 222, 32, 188, 4, .null, false)]
def q_X6_surely_1 : List mm_N := [(56, .iadd, 33, 0, 0, .null, false),
  (57, .istore_n 3, 34, 3, 0, .null, false),
  (58, .iinc 4 1, 35, 4, 0, .int 1, true),
  (61, .goto (-38), 0, 15, 0, .null, false),
  (64, .iload_n 2, 37, 2, 0, .null, false),
  (65, .ifCond .ne 9, 38, 42, 0, .null, false),
  (68, .aload_n 0, 39, 0, 0, .null, false),
  (69, .iconst 4, 40, 0, 0, .int 4, false),
  (70, .invokevirtual 80, 41, 120, 2, .null, false),
  (73, .ireturn, 0, 0, 0, .null, false),
  (74, .aload_n 0, 43, 0, 0, .null, false),
  (75, .iload_n 3, 44, 3, 0, .null, false),
  (76, .putfield 69, 45, 6, 7, .null, false),
  (79, .iload_n 3, 46, 3, 0, .null, false),
  (80, .iload_n 2, 47, 2, 0, .null, false),
  (81, .if_icmp .ne 7, 48, 50, 0, .null, false),
  (84, .iconst 1, 49, 0, 0, .int 1, false),
  (85, .goto 13, 0, 55, 0, .null, false),
  (88, .iload_n 3, 51, 3, 0, .null, false),
  (89, .ifCond .ne 7, 52, 54, 0, .null, false),
  (92, .iconst 0, 53, 0, 0, .int 0, false),
  (93, .goto 5, 0, 55, 0, .null, false),
  (96, .bipush (-9), 55, 0, 0, .int (-9), false),
  (98, .ireturn, 0, 0, 0, .null, true)]
def q_X6_surely : List (List mm_N) := [q_X6_surely_0, q_X6_surely_1]
def q_X6_freed_0 : List mm_N := [(0, .iload_n 1, 1, 1, 0, .null, false),
  (1, .iconst 0, 2, 0, 0, .int 0, false),
  (2, .iconst 4, 3, 0, 0, .int 4, false),
  (3, .invokestatic 72, 4, 117, 3, .null, false),
  (6, .ifCond .ne 5, 5, 7, 0, .null, false),
  (9, .iconst (-1), 6, 0, 0, .int (-1), false),
  (10, .ireturn, 0, 0, 0, .null, false),
  (11, .aload_n 0, 8, 0, 0, .null, false),
  (12, .invokevirtual 145, 9, 158, 1, .null, false),
  (15, .aload_n 0, 10, 0, 0, .null, false),
  (16, .invokevirtual 176, 11, 164, 1, .null, false),
  (19, .istore_n 2, 12, 2, 0, .null, false),
  (20, .iload_n 2, 13, 2, 0, .null, false),
  (21, .bipush (-9), 14, 0, 0, .int (-9), false),
  (23, .if_icmp .ne 9, 15, 19, 0, .null, false),
  (26, .aload_n 0, 16, 0, 0, .null, false),
  (27, .iconst 4, 17, 0, 0, .int 4, false),
  (28, .invokevirtual 80, 18, 120, 2, .null, false),
  (31, .ireturn, 0, 0, 0, .null, false),
  (32, .iconst 0, 20, 0, 0, .int 0, false),
  (33, .istore_n 3, 21, 3, 0, .null, false),
  (34, .iconst 0, 22, 0, 0, .int 0, false),
  (35, .istore 4, 23, 4, 0, .null, false),
  (37, .iload 4, 24, 4, 0, .null, true),
  (39, .bipush 32, 25, 0, 0, .int 32, false),
  (41, .if_icmp .ge 48, 26, 53, 0, .null, false),
  (44, .iload_n 3, 27, 3, 0, .null, false),
  (45, .aload_n 0, 28, 0, 0, .null, false),
  (46, .iload 4, 29, 4, 0, .null, false),
  (48, .iload_n 2, 30, 2, 0, .null, false),
  (49, .bipush 31, 31, 0, 0, .int 31, false),
  (51, .invokevirtual 222, 32, 188, 4, .null, false)]
def q_X6_freed_1 : List mm_N := [(54, .iconst 1, 33, 0, 0, .int 1, false),
  (55, .if_icmp .ne 25, 34, 48, 0, .null, false),
  (58, .aload_n 0, 35, 0, 0, .null, false),
  (59, .iload 4, 36, 4, 0, .null, false),
  (61, .iload_n 2, 37, 2, 0, .null, false),
  (62, .bipush 31, 38, 0, 0, .int 31, false),
  (64, .iconst 1, 39, 0, 0, .int 1, false),
  (65, .iload_n 1, 40, 1, 0, .null, false),
  (66, .ishl, 41, 0, 0, .null, false),
  (67, .iconst (-1), 42, 0, 0, .int (-1), false),
  (68, .ixor, 43, 0, 0, .null, false),
  (69, .iand, 44, 0, 0, .null, false),
  (70, .invokevirtual 222, 45, 188, 4, .null, false),
  (73, .ifCond .ne 7, 46, 48, 0, .null, false),
  (76, .iconst 1, 47, 0, 0, .int 1, false),
  (77, .goto 4, 0, 49, 0, .null, false),
  (80, .iconst 0, 49, 0, 0, .int 0, true),
  (81, .iadd, 50, 0, 0, .null, true),
  (82, .istore_n 3, 51, 3, 0, .null, false),
  (83, .iinc 4 1, 52, 4, 0, .int 1, false),
  (86, .goto (-49), 0, 23, 0, .null, false),
  (89, .iload_n 3, 54, 3, 0, .null, false),
  (90, .ireturn, 0, 0, 0, .null, false)]
def q_X6_freed : List (List mm_N) := [q_X6_freed_0, q_X6_freed_1]
def q_X6_agrees_0 : List mm_N := [(0, .iconst 1, 1, 0, 0, .int 1, false),
  (1, .istore_n 3, 2, 3, 0, .null, false),
  (2, .iconst 0, 3, 0, 0, .int 0, false),
  (3, .istore 4, 4, 4, 0, .null, false),
  (5, .iload 4, 5, 4, 0, .null, true),
  (7, .bipush 32, 6, 0, 0, .int 32, false),
  (9, .if_icmp .ge 40, 7, 26, 0, .null, false),
  (12, .iload_n 3, 8, 3, 0, .null, false),
  (13, .ifCond .eq 28, 9, 22, 0, .null, false),
  (16, .aload_n 0, 10, 0, 0, .null, false),
  (17, .iload 4, 11, 4, 0, .null, false),
  (19, .iload_n 1, 12, 1, 0, .null, false),
  (20, .bipush 31, 13, 0, 0, .int 31, false),
  (22, .invokevirtual 222, 14, 188, 4, .null, false),
  (25, .aload_n 0, 15, 0, 0, .null, false),
  (26, .iload 4, 16, 4, 0, .null, false),
  (28, .iload_n 2, 17, 2, 0, .null, false),
  (29, .bipush 31, 18, 0, 0, .int 31, false),
  (31, .invokevirtual 222, 19, 188, 4, .null, false),
  (34, .if_icmp .ne 7, 20, 22, 0, .null, false),
  (37, .iconst 1, 21, 0, 0, .int 1, false),
  (38, .goto 4, 0, 23, 0, .null, false),
  (41, .iconst 0, 23, 0, 0, .int 0, true),
  (42, .istore_n 3, 24, 3, 0, .null, true),
  (43, .iinc 4 1, 25, 4, 0, .int 1, false),
  (46, .goto (-41), 0, 4, 0, .null, false),
  (49, .iload_n 3, 27, 3, 0, .null, false),
  (50, .ireturn, 0, 0, 0, .null, false)]
def q_X6_agrees : List (List mm_N) := [q_X6_agrees_0]
def q_X6_code_0 : List mm_N := [(0, .aload_n 0, 1, 0, 0, .null, false),
  (1, .invokevirtual 145, 2, 158, 1, .null, false),
  (4, .aload_n 0, 3, 0, 0, .null, false),
  (5, .invokevirtual 176, 4, 164, 1, .null, false),
  (8, .istore_n 1, 5, 1, 0, .null, false),
  (9, .iload_n 1, 6, 1, 0, .null, false),
  (10, .bipush (-9), 7, 0, 0, .int (-9), false),
  (12, .if_icmp .ne 9, 8, 12, 0, .null, false),
  (15, .aload_n 0, 9, 0, 0, .null, false),
  (16, .iconst 4, 10, 0, 0, .int 4, false),
  (17, .invokevirtual 80, 11, 120, 2, .null, false),
  (20, .ireturn, 0, 0, 0, .null, false),
  (21, .iload_n 1, 13, 1, 0, .null, false),
  (22, .istore_n 2, 14, 2, 0, .null, false),
  (23, .iload_n 1, 15, 1, 0, .null, false),
  (24, .istore_n 3, 16, 3, 0, .null, false),
  (25, .iload_n 3, 17, 3, 0, .null, true),
  (26, .ifCond .lt 55, 18, 46, 0, .null, false),
  (29, .iload_n 3, 19, 3, 0, .null, false),
  (30, .iload_n 1, 20, 1, 0, .null, false),
  (31, .iconst (-1), 21, 0, 0, .int (-1), false),
  (32, .ixor, 22, 0, 0, .null, false),
  (33, .iand, 23, 0, 0, .null, false),
  (34, .ifCond .ne 18, 24, 31, 0, .null, false),
  (37, .iload_n 3, 25, 3, 0, .null, false),
  (38, .invokestatic 213, 26, 119, 1, .null, false),
  (41, .iload_n 2, 27, 2, 0, .null, false),
  (42, .invokestatic 213, 28, 119, 1, .null, false),
  (45, .if_icmp .gt 7, 29, 31, 0, .null, false),
  (48, .iconst 1, 30, 0, 0, .int 1, false),
  (49, .goto 4, 0, 32, 0, .null, false),
  (52, .iconst 0, 32, 0, 0, .int 0, true)]
def q_X6_code_1 : List mm_N := [(53, .istore 4, 33, 4, 0, .null, true),
  (55, .iload 4, 34, 4, 0, .null, false),
  (57, .ifCond .eq 16, 35, 42, 0, .null, false),
  (60, .aload_n 0, 36, 0, 0, .null, false),
  (61, .iload_n 3, 37, 3, 0, .null, false),
  (62, .iload_n 1, 38, 1, 0, .null, false),
  (63, .invokevirtual 225, 39, 192, 3, .null, false),
  (66, .ifCond .eq 7, 40, 42, 0, .null, false),
  (69, .iload_n 3, 41, 3, 0, .null, false),
  (70, .goto 4, 0, 43, 0, .null, false),
  (73, .iload_n 2, 43, 2, 0, .null, true),
  (74, .istore_n 2, 44, 2, 0, .null, true),
  (75, .iinc 3 (-1), 45, 3, 0, .int (-1), false),
  (78, .goto (-53), 0, 16, 0, .null, false),
  (81, .aload_n 0, 47, 0, 0, .null, false),
  (82, .iload_n 2, 48, 2, 0, .null, false),
  (83, .putfield 69, 49, 6, 7, .null, false),
  (86, .iload_n 2, 50, 2, 0, .null, false),
  (87, .invokestatic 213, 51, 119, 1, .null, false),
  (90, .ireturn, 0, 0, 0, .null, false)]
def q_X6_code : List (List mm_N) := [q_X6_code_0, q_X6_code_1]
def q_X6_kinds_0 : List mm_N := [(0, .aload_n 0, 1, 0, 0, .null, false),
  (1, .iload_n 1, 2, 1, 0, .null, false),
  (2, .invokevirtual 135, 3, 143, 2, .null, false),
  (5, .ifCond .eq 11, 4, 8, 0, .null, false),
  (8, .aload_n 0, 5, 0, 0, .null, false),
  (9, .iload_n 2, 6, 2, 0, .null, false),
  (10, .invokevirtual 170, 7, 144, 2, .null, false),
  (13, .ifCond .ne 5, 8, 10, 0, .null, false),
  (16, .iconst (-1), 9, 0, 0, .int (-1), true),
  (17, .ireturn, 0, 0, 0, .null, false),
  (18, .aload_n 0, 11, 0, 0, .null, false),
  (19, .invokevirtual 145, 12, 158, 1, .null, false),
  (22, .aload_n 0, 13, 0, 0, .null, false),
  (23, .getfield 32, 14, 6, 11, .null, false),
  (26, .iload_n 1, 15, 1, 0, .null, false),
  (27, .iaload, 16, 0, 0, .null, false),
  (28, .istore_n 3, 17, 3, 0, .null, false),
  (29, .iconst 0, 18, 0, 0, .int 0, false),
  (30, .istore 4, 19, 4, 0, .null, false),
  (32, .iconst 0, 20, 0, 0, .int 0, false),
  (33, .istore 5, 21, 5, 0, .null, false),
  (35, .iload 5, 22, 5, 0, .null, true),
  (37, .bipush 6, 23, 0, 0, .int 6, false),
  (39, .if_icmp .ge 38, 24, 43, 0, .null, false),
  (42, .aload_n 0, 25, 0, 0, .null, false),
  (43, .getfield 32, 26, 6, 11, .null, false),
  (46, .iload_n 1, 27, 1, 0, .null, false),
  (47, .iload 5, 28, 5, 0, .null, false),
  (49, .iastore, 29, 0, 0, .null, false),
  (50, .iload 4, 30, 4, 0, .null, false),
  (52, .aload_n 0, 31, 0, 0, .null, false),
  (53, .iload_n 2, 32, 2, 0, .null, false)]
def q_X6_kinds_1 : List mm_N := [(54, .invokevirtual 173, 33, 161, 2, .null, false),
  (57, .ifCond .eq 10, 34, 38, 0, .null, false),
  (60, .iconst 1, 35, 0, 0, .int 1, false),
  (61, .iload 5, 36, 5, 0, .null, false),
  (63, .ishl, 37, 0, 0, .null, false),
  (64, .goto 4, 0, 39, 0, .null, false),
  (67, .iconst 0, 39, 0, 0, .int 0, false),
  (68, .ior, 40, 0, 0, .null, true),
  (69, .istore 4, 41, 4, 0, .null, false),
  (71, .iinc 5 1, 42, 5, 0, .int 1, false),
  (74, .goto (-39), 0, 21, 0, .null, false),
  (77, .aload_n 0, 44, 0, 0, .null, false),
  (78, .getfield 32, 45, 6, 11, .null, false),
  (81, .iload_n 1, 46, 1, 0, .null, false),
  (82, .iload_n 3, 47, 3, 0, .null, false),
  (83, .iastore, 48, 0, 0, .null, false),
  (84, .iload 4, 49, 4, 0, .null, false),
  (86, .ireturn, 0, 0, 0, .null, false)]
def q_X6_kinds : List (List mm_N) := [q_X6_kinds_0, q_X6_kinds_1]
def q_X6_forged_0 : List mm_N := [(0, .aload_n 0, 1, 0, 0, .null, false),
  (1, .iload_n 1, 2, 1, 0, .null, false),
  (2, .invokevirtual 170, 3, 144, 2, .null, false),
  (5, .ifCond .ne 5, 4, 6, 0, .null, false),
  (8, .iconst (-1), 5, 0, 0, .int (-1), false),
  (9, .ireturn, 0, 0, 0, .null, false),
  (10, .aload_n 0, 7, 0, 0, .null, false),
  (11, .invokevirtual 145, 8, 158, 1, .null, false),
  (14, .iconst 0, 9, 0, 0, .int 0, false),
  (15, .istore_n 2, 10, 2, 0, .null, false),
  (16, .iconst 0, 11, 0, 0, .int 0, false),
  (17, .istore_n 3, 12, 3, 0, .null, false),
  (18, .iload_n 3, 13, 3, 0, .null, true),
  (19, .aload_n 0, 14, 0, 0, .null, false),
  (20, .getfield 121, 15, 6, 10, .null, false),
  (23, .if_icmp .ge 106, 16, 72, 0, .null, false),
  (26, .iconst 0, 17, 0, 0, .int 0, false),
  (27, .istore 4, 18, 4, 0, .null, false),
  (29, .iconst 0, 19, 0, 0, .int 0, false),
  (30, .istore 5, 20, 5, 0, .null, false),
  (32, .iload 5, 21, 5, 0, .null, true),
  (34, .aload_n 0, 22, 0, 0, .null, false),
  (35, .getfield 121, 23, 6, 10, .null, false),
  (38, .if_icmp .ge 58, 24, 53, 0, .null, false),
  (41, .iload 4, 25, 4, 0, .null, false),
  (43, .aload_n 0, 26, 0, 0, .null, false),
  (44, .iload 5, 27, 5, 0, .null, false),
  (46, .iload_n 1, 28, 1, 0, .null, false),
  (47, .aload_n 0, 29, 0, 0, .null, false),
  (48, .getfield 32, 30, 6, 11, .null, false),
  (51, .iload 5, 31, 5, 0, .null, false),
  (53, .iaload, 32, 0, 0, .null, false)]
def q_X6_forged_1 : List mm_N := [(54, .iload 5, 33, 5, 0, .null, false),
  (56, .iload_n 3, 34, 3, 0, .null, false),
  (57, .if_icmp .ne 8, 35, 37, 0, .null, false),
  (60, .bipush (-9), 36, 0, 0, .int (-9), false),
  (62, .goto 10, 0, 41, 0, .null, false),
  (65, .aload_n 0, 38, 0, 0, .null, false),
  (66, .getfield 41, 39, 6, 14, .null, false),
  (69, .iload 5, 40, 5, 0, .null, false),
  (71, .iaload, 41, 0, 0, .null, false),
  (72, .iload_n 3, 42, 3, 0, .null, true),
  (73, .invokevirtual 163, 43, 159, 6, .null, false),
  (76, .ifCond .eq 10, 44, 48, 0, .null, false),
  (79, .iconst 1, 45, 0, 0, .int 1, false),
  (80, .iload 5, 46, 5, 0, .null, false),
  (82, .ishl, 47, 0, 0, .null, false),
  (83, .goto 4, 0, 49, 0, .null, false),
  (86, .iconst 0, 49, 0, 0, .int 0, false),
  (87, .ior, 50, 0, 0, .null, true),
  (88, .istore 4, 51, 4, 0, .null, false),
  (90, .iinc 5 1, 52, 5, 0, .int 1, false),
  (93, .goto (-61), 0, 20, 0, .null, false),
  (96, .iload_n 2, 54, 2, 0, .null, false),
  (97, .aload_n 0, 55, 0, 0, .null, false),
  (98, .getfield 41, 56, 6, 14, .null, false),
  (101, .iload_n 3, 57, 3, 0, .null, false),
  (102, .iaload, 58, 0, 0, .null, false),
  (103, .bipush (-9), 59, 0, 0, .int (-9), false),
  (105, .if_icmp .eq 15, 60, 67, 0, .null, false),
  (108, .iload 4, 61, 4, 0, .null, false),
  (110, .iload_n 1, 62, 1, 0, .null, false),
  (111, .if_icmp .ne 9, 63, 67, 0, .null, false),
  (114, .iconst 1, 64, 0, 0, .int 1, false)]
def q_X6_forged_2 : List mm_N := [(115, .iload_n 3, 65, 3, 0, .null, false),
  (116, .ishl, 66, 0, 0, .null, false),
  (117, .goto 4, 0, 68, 0, .null, false),
  (120, .iconst 0, 68, 0, 0, .int 0, true),
  (121, .ior, 69, 0, 0, .null, true),
  (122, .istore_n 2, 70, 2, 0, .null, false),
  (123, .iinc 3 1, 71, 3, 0, .int 1, false),
  (126, .goto (-108), 0, 12, 0, .null, false),
  (129, .iload_n 2, 73, 2, 0, .null, false),
  (130, .ireturn, 0, 0, 0, .null, false)]
def q_X6_forged : List (List mm_N) := [q_X6_forged_0, q_X6_forged_1, q_X6_forged_2]
def q_X6_torn_0 : List mm_N := [(0, .aload_n 0, 1, 0, 0, .null, false),
  (1, .iload_n 1, 2, 1, 0, .null, false),
  (2, .invokevirtual 170, 3, 144, 2, .null, false),
  (5, .ifCond .eq 11, 4, 8, 0, .null, false),
  (8, .aload_n 0, 5, 0, 0, .null, false),
  (9, .iload_n 2, 6, 2, 0, .null, false),
  (10, .invokevirtual 170, 7, 144, 2, .null, false),
  (13, .ifCond .ne 5, 8, 10, 0, .null, false),
  (16, .iconst (-1), 9, 0, 0, .int (-1), true),
  (17, .ireturn, 0, 0, 0, .null, false),
  (18, .aload_n 0, 11, 0, 0, .null, false),
  (19, .invokevirtual 145, 12, 158, 1, .null, false),
  (22, .iconst 0, 13, 0, 0, .int 0, false),
  (23, .istore_n 3, 14, 3, 0, .null, false),
  (24, .bipush (-9), 15, 0, 0, .int (-9), false),
  (26, .istore 4, 16, 4, 0, .null, false),
  (28, .iconst 0, 17, 0, 0, .int 0, false),
  (29, .istore 5, 18, 5, 0, .null, false),
  (31, .iload 5, 19, 5, 0, .null, true),
  (33, .iconst 1, 20, 0, 0, .int 1, false),
  (34, .aload_n 0, 21, 0, 0, .null, false),
  (35, .getfield 121, 22, 6, 10, .null, false),
  (38, .ishl, 23, 0, 0, .null, false),
  (39, .if_icmp .ge 65, 24, 56, 0, .null, false),
  (42, .iload 5, 25, 5, 0, .null, false),
  (44, .iload_n 2, 26, 2, 0, .null, false),
  (45, .ixor, 27, 0, 0, .null, false),
  (46, .iload_n 1, 28, 1, 0, .null, false),
  (47, .iand, 29, 0, 0, .null, false),
  (48, .ifCond .ne 16, 30, 36, 0, .null, false),
  (51, .aload_n 0, 31, 0, 0, .null, false),
  (52, .iload 5, 32, 5, 0, .null, false)]
def q_X6_torn_1 : List mm_N := [(54, .invokevirtual 173, 33, 161, 2, .null, false),
  (57, .ifCond .eq 7, 34, 36, 0, .null, false),
  (60, .iconst 1, 35, 0, 0, .int 1, false),
  (61, .goto 4, 0, 37, 0, .null, false),
  (64, .iconst 0, 37, 0, 0, .int 0, true),
  (65, .istore 6, 38, 6, 0, .null, true),
  (67, .iload 6, 39, 6, 0, .null, false),
  (69, .ifCond .eq 12, 40, 44, 0, .null, false),
  (72, .iload_n 3, 41, 3, 0, .null, false),
  (73, .ifCond .ne 8, 42, 44, 0, .null, false),
  (76, .iload 5, 43, 5, 0, .null, false),
  (78, .goto 5, 0, 45, 0, .null, false),
  (81, .iload 4, 45, 4, 0, .null, true),
  (83, .istore 4, 46, 4, 0, .null, true),
  (85, .iload_n 3, 47, 3, 0, .null, false),
  (86, .iload 6, 48, 6, 0, .null, false),
  (88, .ifCond .eq 7, 49, 51, 0, .null, false),
  (91, .iconst 1, 50, 0, 0, .int 1, false),
  (92, .goto 4, 0, 52, 0, .null, false),
  (95, .iconst 0, 52, 0, 0, .int 0, false),
  (96, .iadd, 53, 0, 0, .null, true),
  (97, .istore_n 3, 54, 3, 0, .null, false),
  (98, .iinc 5 1, 55, 5, 0, .int 1, false),
  (101, .goto (-70), 0, 18, 0, .null, false),
  (104, .aload_n 0, 57, 0, 0, .null, false),
  (105, .iload 4, 58, 4, 0, .null, false),
  (107, .putfield 69, 59, 6, 7, .null, false),
  (110, .iload_n 3, 60, 3, 0, .null, false),
  (111, .ireturn, 0, 0, 0, .null, false)]
def q_X6_torn : List (List mm_N) := [q_X6_torn_0, q_X6_torn_1]
def q_X6_ahead_0 : List mm_N := [(0, .iconst 0, 1, 0, 0, .int 0, false),
  (1, .istore_n 2, 2, 2, 0, .null, false),
  (2, .iconst 0, 3, 0, 0, .int 0, false),
  (3, .istore_n 3, 4, 3, 0, .null, false),
  (4, .iload_n 3, 5, 3, 0, .null, true),
  (5, .aload_n 0, 6, 0, 0, .null, false),
  (6, .getfield 121, 7, 6, 10, .null, false),
  (9, .if_icmp .ge 27, 8, 22, 0, .null, false),
  (12, .iload_n 2, 9, 2, 0, .null, false),
  (13, .aload_n 0, 10, 0, 0, .null, false),
  (14, .getfield 35, 11, 6, 12, .null, false),
  (17, .iload_n 3, 12, 3, 0, .null, false),
  (18, .iaload, 13, 0, 0, .null, false),
  (19, .iload_n 1, 14, 1, 0, .null, false),
  (20, .if_icmp .ge 7, 15, 17, 0, .null, false),
  (23, .iconst 1, 16, 0, 0, .int 1, false),
  (24, .goto 4, 0, 18, 0, .null, false),
  (27, .iconst 0, 18, 0, 0, .int 0, false),
  (28, .iadd, 19, 0, 0, .null, true),
  (29, .istore_n 2, 20, 2, 0, .null, false),
  (30, .iinc 3 1, 21, 3, 0, .int 1, false),
  (33, .goto (-29), 0, 4, 0, .null, false),
  (36, .iload_n 2, 23, 2, 0, .null, false),
  (37, .ireturn, 0, 0, 0, .null, false)]
def q_X6_ahead : List (List mm_N) := [q_X6_ahead_0]
def q_X6_nthAhead_0 : List mm_N := [(0, .iconst 0, 1, 0, 0, .int 0, false),
  (1, .istore_n 3, 2, 3, 0, .null, false),
  (2, .iconst 0, 3, 0, 0, .int 0, false),
  (3, .istore 4, 4, 4, 0, .null, false),
  (5, .iload 4, 5, 4, 0, .null, true),
  (7, .aload_n 0, 6, 0, 0, .null, false),
  (8, .getfield 121, 7, 6, 10, .null, false),
  (11, .if_icmp .ge 31, 8, 22, 0, .null, false),
  (14, .aload_n 0, 9, 0, 0, .null, false),
  (15, .getfield 35, 10, 6, 12, .null, false),
  (18, .iload 4, 11, 4, 0, .null, false),
  (20, .iaload, 12, 0, 0, .null, false),
  (21, .iload_n 1, 13, 1, 0, .null, false),
  (22, .if_icmp .ge 14, 14, 20, 0, .null, false),
  (25, .iload_n 3, 15, 3, 0, .null, false),
  (26, .iload_n 2, 16, 2, 0, .null, false),
  (27, .if_icmp .ne 6, 17, 19, 0, .null, false),
  (30, .iload 4, 18, 4, 0, .null, false),
  (32, .ireturn, 0, 0, 0, .null, false),
  (33, .iinc 3 1, 20, 3, 0, .int 1, false),
  (36, .iinc 4 1, 21, 4, 0, .int 1, true),
  (39, .goto (-34), 0, 4, 0, .null, false),
  (42, .bipush (-9), 23, 0, 0, .int (-9), false),
  (44, .ireturn, 0, 0, 0, .null, false)]
def q_X6_nthAhead : List (List mm_N) := [q_X6_nthAhead_0]
def q_X6_lots_0 : List mm_N := [(0, .iload_n 1, 1, 1, 0, .null, false),
  (1, .iconst 1, 2, 0, 0, .int 1, false),
  (2, .bipush 9, 3, 0, 0, .int 9, false),
  (4, .invokestatic 72, 4, 117, 3, .null, false),
  (7, .ifCond .eq 13, 5, 10, 0, .null, false),
  (10, .iload_n 2, 6, 2, 0, .null, false),
  (11, .iconst 1, 7, 0, 0, .int 1, false),
  (12, .ldc 228, 8, 0, 0, .int 2147483646, false),
  (14, .invokestatic 72, 9, 117, 3, .null, false),
  (17, .ifCond .ne 5, 10, 12, 0, .null, false),
  (20, .iconst (-1), 11, 0, 0, .int (-1), true),
  (21, .ireturn, 0, 0, 0, .null, false),
  (22, .aload_n 0, 13, 0, 0, .null, false),
  (23, .getfield 121, 14, 6, 10, .null, false),
  (26, .iload_n 1, 15, 1, 0, .null, false),
  (27, .iadd, 16, 0, 0, .null, false),
  (28, .bipush 9, 17, 0, 0, .int 9, false),
  (30, .if_icmp .le 6, 18, 20, 0, .null, false),
  (33, .bipush (-2), 19, 0, 0, .int (-2), false),
  (35, .ireturn, 0, 0, 0, .null, false),
  (36, .iload_n 2, 21, 2, 0, .null, false),
  (37, .i2l, 22, 0, 0, .null, false),
  (38, .lstore_n 3, 23, 3, 0, .null, false),
  (39, .iconst 0, 24, 0, 0, .int 0, false),
  (40, .istore 5, 25, 5, 0, .null, false),
  (42, .iload 5, 26, 5, 0, .null, true),
  (44, .iload_n 1, 27, 1, 0, .null, false),
  (45, .if_icmp .ge 115, 28, 88, 0, .null, false),
  (48, .lload_n 3, 29, 3, 0, .null, false),
  (49, .ldc2_w 229, 30, 0, 0, .long 48271, false),
  (52, .lmul, 31, 0, 0, .null, false),
  (53, .ldc2_w 231, 32, 0, 0, .long 2147483647, false)]
def q_X6_lots_1 : List mm_N := [(56, .lrem, 33, 0, 0, .null, false),
  (57, .lstore_n 3, 34, 3, 0, .null, false),
  (58, .lload_n 3, 35, 3, 0, .null, false),
  (59, .l2i, 36, 0, 0, .null, false),
  (60, .istore 6, 37, 6, 0, .null, false),
  (62, .iload 6, 38, 6, 0, .null, false),
  (64, .bipush 8, 39, 0, 0, .int 8, false),
  (66, .idiv, 40, 0, 0, .null, false),
  (67, .bipush 10, 41, 0, 0, .int 10, false),
  (69, .irem, 42, 0, 0, .null, false),
  (70, .istore 7, 43, 7, 0, .null, false),
  (72, .aload_n 0, 44, 0, 0, .null, false),
  (73, .iload 7, 45, 7, 0, .null, false),
  (75, .invokevirtual 233, 46, 197, 2, .null, false),
  (78, .istore 8, 47, 8, 0, .null, false),
  (80, .iload 8, 48, 8, 0, .null, false),
  (82, .ifCond .ne 8, 49, 51, 0, .null, false),
  (85, .bipush (-9), 50, 0, 0, .int (-9), false),
  (87, .goto 18, 0, 59, 0, .null, false),
  (90, .aload_n 0, 52, 0, 0, .null, false),
  (91, .iload 7, 53, 7, 0, .null, false),
  (93, .iload 6, 54, 6, 0, .null, false),
  (95, .sipush 256, 55, 0, 0, .int 256, false),
  (98, .idiv, 56, 0, 0, .null, false),
  (99, .iload 8, 57, 8, 0, .null, false),
  (101, .irem, 58, 0, 0, .null, false),
  (102, .invokevirtual 236, 59, 198, 3, .null, false),
  (105, .istore 9, 60, 9, 0, .null, true),
  (107, .aload_n 0, 61, 0, 0, .null, false),
  (108, .iload 6, 62, 6, 0, .null, false),
  (110, .bipush 6, 63, 0, 0, .int 6, false),
  (112, .irem, 64, 0, 0, .null, false)]
def q_X6_lots_2 : List mm_N := [(113, .iload 7, 65, 7, 0, .null, false),
  (115, .iload 6, 66, 6, 0, .null, false),
  (117, .sipush 128, 67, 0, 0, .int 128, false),
  (120, .idiv, 68, 0, 0, .null, false),
  (121, .iconst 2, 69, 0, 0, .int 2, false),
  (122, .irem, 70, 0, 0, .null, false),
  (123, .iload 9, 71, 9, 0, .null, false),
  (125, .iload 8, 72, 8, 0, .null, false),
  (127, .ifCond .ne 7, 73, 75, 0, .null, false),
  (130, .iconst 0, 74, 0, 0, .int 0, false),
  (131, .goto 19, 0, 84, 0, .null, false),
  (134, .iload 6, 76, 6, 0, .null, false),
  (136, .sipush 16384, 77, 0, 0, .int 16384, false),
  (139, .idiv, 78, 0, 0, .null, false),
  (140, .iconst 2, 79, 0, 0, .int 2, false),
  (141, .irem, 80, 0, 0, .null, false),
  (142, .ifCond .ne 7, 81, 83, 0, .null, false),
  (145, .iconst (-1), 82, 0, 0, .int (-1), false),
  (146, .goto 4, 0, 84, 0, .null, false),
  (149, .iconst 1, 84, 0, 0, .int 1, false),
  (150, .iconst 0, 85, 0, 0, .int 0, true),
  (151, .invokevirtual 124, 86, 141, 7, .null, false),
  (154, .iinc 5 1, 87, 5, 0, .int 1, false),
  (157, .goto (-115), 0, 25, 0, .null, false),
  (160, .aload_n 0, 89, 0, 0, .null, false),
  (161, .getfield 121, 90, 6, 10, .null, false),
  (164, .ireturn, 0, 0, 0, .null, false)]
def q_X6_lots : List (List mm_N) := [q_X6_lots_0, q_X6_lots_1, q_X6_lots_2]
def q_X6_asked_0 : List mm_N := [(0, .aload_n 0, 1, 0, 0, .null, false),
  (1, .getfield 69, 2, 6, 7, .null, false),
  (4, .ireturn, 0, 0, 0, .null, false)]
def q_X6_asked : List (List mm_N) := [q_X6_asked_0]
def q_X6_upper_0 : List mm_N := [(0, .aload_n 0, 1, 0, 0, .null, false),
  (1, .getfield 192, 2, 6, 8, .null, false),
  (4, .lreturn, 0, 0, 0, .null, false)]
def q_X6_upper : List (List mm_N) := [q_X6_upper_0]
def q_X6_lower_0 : List mm_N := [(0, .aload_n 0, 1, 0, 0, .null, false),
  (1, .getfield 28, 2, 6, 9, .null, false),
  (4, .lreturn, 0, 0, 0, .null, false)]
def q_X6_lower : List (List mm_N) := [q_X6_lower_0]
def q_X6_counted_0 : List mm_N := [(0, .iconst 0, 1, 0, 0, .int 0, false),
  (1, .istore_n 2, 2, 2, 0, .null, false),
  (2, .iconst 0, 3, 0, 0, .int 0, false),
  (3, .istore_n 3, 4, 3, 0, .null, false),
  (4, .iload_n 3, 5, 3, 0, .null, true),
  (5, .aload_n 0, 6, 0, 0, .null, false),
  (6, .getfield 121, 7, 6, 10, .null, false),
  (9, .if_icmp .ge 99, 8, 61, 0, .null, false),
  (12, .iload_n 1, 9, 1, 0, .null, false),
  (13, .ifCond .eq 69, 10, 47, 0, .null, false),
  (16, .iload_n 1, 11, 1, 0, .null, false),
  (17, .iconst 1, 12, 0, 0, .int 1, false),
  (18, .if_icmp .ne 14, 13, 19, 0, .null, false),
  (21, .aload_n 0, 14, 0, 0, .null, false),
  (22, .getfield 41, 15, 6, 14, .null, false),
  (25, .iload_n 3, 16, 3, 0, .null, false),
  (26, .iaload, 17, 0, 0, .null, false),
  (27, .bipush (-9), 18, 0, 0, .int (-9), false),
  (29, .if_icmp .ne 53, 19, 47, 0, .null, false),
  (32, .iload_n 1, 20, 1, 0, .null, true),
  (33, .iconst 2, 21, 0, 0, .int 2, false),
  (34, .if_icmp .ne 12, 22, 27, 0, .null, false),
  (37, .aload_n 0, 23, 0, 0, .null, false),
  (38, .getfield 44, 24, 6, 15, .null, false),
  (41, .iload_n 3, 25, 3, 0, .null, false),
  (42, .iaload, 26, 0, 0, .null, false),
  (43, .ifCond .lt 39, 27, 47, 0, .null, false),
  (46, .iload_n 1, 28, 1, 0, .null, true),
  (47, .iconst 3, 29, 0, 0, .int 3, false),
  (48, .if_icmp .ne 16, 30, 37, 0, .null, false),
  (51, .aload_n 0, 31, 0, 0, .null, false),
  (52, .getfield 32, 32, 6, 11, .null, false)]
def q_X6_counted_1 : List mm_N := [(55, .iload_n 3, 33, 3, 0, .null, false),
  (56, .iaload, 34, 0, 0, .null, false),
  (57, .iconst 1, 35, 0, 0, .int 1, false),
  (58, .invokestatic 141, 36, 148, 2, .null, false),
  (61, .ifCond .ne 21, 37, 47, 0, .null, false),
  (64, .iload_n 1, 38, 1, 0, .null, true),
  (65, .iconst 4, 39, 0, 0, .int 4, false),
  (66, .if_icmp .ne 20, 40, 49, 0, .null, false),
  (69, .aload_n 0, 41, 0, 0, .null, false),
  (70, .getfield 32, 42, 6, 11, .null, false),
  (73, .iload_n 3, 43, 3, 0, .null, false),
  (74, .iaload, 44, 0, 0, .null, false),
  (75, .iconst 2, 45, 0, 0, .int 2, false),
  (76, .invokestatic 141, 46, 148, 2, .null, false),
  (79, .ifCond .eq 7, 47, 49, 0, .null, false),
  (82, .iconst 1, 48, 0, 0, .int 1, true),
  (83, .goto 4, 0, 50, 0, .null, false),
  (86, .iconst 0, 50, 0, 0, .int 0, true),
  (87, .istore 4, 51, 4, 0, .null, true),
  (89, .iload_n 2, 52, 2, 0, .null, false),
  (90, .iload 4, 53, 4, 0, .null, false),
  (92, .ifCond .eq 7, 54, 56, 0, .null, false),
  (95, .iconst 1, 55, 0, 0, .int 1, false),
  (96, .goto 4, 0, 57, 0, .null, false),
  (99, .iconst 0, 57, 0, 0, .int 0, false),
  (100, .iadd, 58, 0, 0, .null, true),
  (101, .istore_n 2, 59, 2, 0, .null, false),
  (102, .iinc 3 1, 60, 3, 0, .int 1, false),
  (105, .goto (-101), 0, 4, 0, .null, false),
  (108, .iconst 0, 62, 0, 0, .int 0, false),
  (109, .istore_n 3, 63, 3, 0, .null, false),
  (110, .iload_n 3, 64, 3, 0, .null, true)]
def q_X6_counted_2 : List mm_N := [(111, .bipush 6, 65, 0, 0, .int 6, false),
  (113, .if_icmp .ge 31, 66, 82, 0, .null, false),
  (116, .iload_n 1, 67, 1, 0, .null, false),
  (117, .iconst 5, 68, 0, 0, .int 5, false),
  (118, .if_icmp .ne 26, 69, 82, 0, .null, false),
  (121, .iload_n 2, 70, 2, 0, .null, false),
  (122, .aload_n 0, 71, 0, 0, .null, false),
  (123, .getfield 7, 72, 6, 0, .null, false),
  (126, .iload_n 3, 73, 3, 0, .null, false),
  (127, .iaload, 74, 0, 0, .null, false),
  (128, .ifCond .ge 7, 75, 77, 0, .null, false),
  (131, .iconst 0, 76, 0, 0, .int 0, false),
  (132, .goto 4, 0, 78, 0, .null, false),
  (135, .iconst 1, 78, 0, 0, .int 1, false),
  (136, .iadd, 79, 0, 0, .null, true),
  (137, .istore_n 2, 80, 2, 0, .null, false),
  (138, .iinc 3 1, 81, 3, 0, .int 1, false),
  (141, .goto (-31), 0, 63, 0, .null, false),
  (144, .iconst 0, 83, 0, 0, .int 0, true),
  (145, .istore_n 3, 84, 3, 0, .null, false),
  (146, .iload_n 3, 85, 3, 0, .null, true),
  (147, .iconst 4, 86, 0, 0, .int 4, false),
  (148, .if_icmp .ge 32, 87, 103, 0, .null, false),
  (151, .iload_n 1, 88, 1, 0, .null, false),
  (152, .bipush 6, 89, 0, 0, .int 6, false),
  (154, .if_icmp .ne 26, 90, 103, 0, .null, false),
  (157, .iload_n 2, 91, 2, 0, .null, false),
  (158, .aload_n 0, 92, 0, 0, .null, false),
  (159, .getfield 16, 93, 6, 2, .null, false),
  (162, .iload_n 3, 94, 3, 0, .null, false),
  (163, .iaload, 95, 0, 0, .null, false),
  (164, .ifCond .ge 7, 96, 98, 0, .null, false)]
def q_X6_counted_3 : List mm_N := [(167, .iconst 0, 97, 0, 0, .int 0, false),
  (168, .goto 4, 0, 99, 0, .null, false),
  (171, .iconst 1, 99, 0, 0, .int 1, false),
  (172, .iadd, 100, 0, 0, .null, true),
  (173, .istore_n 2, 101, 2, 0, .null, false),
  (174, .iinc 3 1, 102, 3, 0, .int 1, false),
  (177, .goto (-31), 0, 84, 0, .null, false),
  (180, .iconst 0, 104, 0, 0, .int 0, true),
  (181, .istore_n 3, 105, 3, 0, .null, false),
  (182, .iload_n 3, 106, 3, 0, .null, true),
  (183, .iconst 3, 107, 0, 0, .int 3, false),
  (184, .if_icmp .ge 32, 108, 124, 0, .null, false),
  (187, .iload_n 1, 109, 1, 0, .null, false),
  (188, .bipush 7, 110, 0, 0, .int 7, false),
  (190, .if_icmp .ne 26, 111, 124, 0, .null, false),
  (193, .iload_n 2, 112, 2, 0, .null, false),
  (194, .aload_n 0, 113, 0, 0, .null, false),
  (195, .getfield 50, 114, 6, 17, .null, false),
  (198, .iload_n 3, 115, 3, 0, .null, false),
  (199, .iaload, 116, 0, 0, .null, false),
  (200, .ifCond .ge 7, 117, 119, 0, .null, false),
  (203, .iconst 0, 118, 0, 0, .int 0, false),
  (204, .goto 4, 0, 120, 0, .null, false),
  (207, .iconst 1, 120, 0, 0, .int 1, false),
  (208, .iadd, 121, 0, 0, .null, true),
  (209, .istore_n 2, 122, 2, 0, .null, false),
  (210, .iinc 3 1, 123, 3, 0, .int 1, false),
  (213, .goto (-31), 0, 105, 0, .null, false),
  (216, .iload_n 2, 125, 2, 0, .null, true),
  (217, .ireturn, 0, 0, 0, .null, false)]
def q_X6_counted : List (List mm_N) := [q_X6_counted_0, q_X6_counted_1, q_X6_counted_2, q_X6_counted_3]
def q_X6_count_0 : List mm_N := [(0, .iload_n 1, 1, 1, 0, .null, false),
  (1, .iconst 0, 2, 0, 0, .int 0, false),
  (2, .bipush 7, 3, 0, 0, .int 7, false),
  (4, .invokestatic 72, 4, 117, 3, .null, false),
  (7, .ifCond .eq 11, 5, 9, 0, .null, false),
  (10, .aload_n 0, 6, 0, 0, .null, false),
  (11, .iload_n 1, 7, 1, 0, .null, false),
  (12, .invokevirtual 239, 8, 203, 2, .null, false),
  (15, .goto 4, 0, 10, 0, .null, false),
  (18, .iconst (-1), 10, 0, 0, .int (-1), false),
  (19, .ireturn, 0, 0, 0, .null, true)]
def q_X6_count : List (List mm_N) := [q_X6_count_0]
def q_X6_finding_0 : List mm_N := [(0, .aload_n 0, 1, 0, 0, .null, false),
  (1, .getfield 65, 2, 6, 5, .null, false),
  (4, .ireturn, 0, 0, 0, .null, false)]
def q_X6_finding : List (List mm_N) := [q_X6_finding_0]
def q_X6_findings_0 : List mm_N := [(0, .iload_n 1, 1, 1, 0, .null, false),
  (1, .iconst 1, 2, 0, 0, .int 1, false),
  (2, .iconst 5, 3, 0, 0, .int 5, false),
  (3, .invokestatic 72, 4, 117, 3, .null, false),
  (6, .ifCond .eq 12, 5, 10, 0, .null, false),
  (9, .aload_n 0, 6, 0, 0, .null, false),
  (10, .getfield 25, 7, 6, 6, .null, false),
  (13, .iload_n 1, 8, 1, 0, .null, false),
  (14, .iaload, 9, 0, 0, .null, false),
  (15, .goto 4, 0, 11, 0, .null, false),
  (18, .iconst (-1), 11, 0, 0, .int (-1), false),
  (19, .ireturn, 0, 0, 0, .null, true)]
def q_X6_findings : List (List mm_N) := [q_X6_findings_0]
def q_X6_digest_0 : List mm_N := [(0, .ldc2_w 242, 1, 0, 0, .long 17, false),
  (3, .lstore_n 1, 2, 1, 0, .null, false),
  (4, .iconst 0, 3, 0, 0, .int 0, false),
  (5, .istore_n 3, 4, 3, 0, .null, false),
  (6, .iload_n 3, 5, 3, 0, .null, true),
  (7, .bipush 8, 6, 0, 0, .int 8, false),
  (9, .if_icmp .ge 22, 7, 18, 0, .null, false),
  (12, .ldc2_w 244, 8, 0, 0, .long 31, false),
  (15, .lload_n 1, 9, 1, 0, .null, false),
  (16, .lmul, 10, 0, 0, .null, false),
  (17, .aload_n 0, 11, 0, 0, .null, false),
  (18, .iload_n 3, 12, 3, 0, .null, false),
  (19, .invokevirtual 239, 13, 203, 2, .null, false),
  (22, .i2l, 14, 0, 0, .null, false),
  (23, .ladd, 15, 0, 0, .null, false),
  (24, .lstore_n 1, 16, 1, 0, .null, false),
  (25, .iinc 3 1, 17, 3, 0, .int 1, false),
  (28, .goto (-22), 0, 4, 0, .null, false),
  (31, .iconst 0, 19, 0, 0, .int 0, false),
  (32, .istore_n 3, 20, 3, 0, .null, false),
  (33, .iload_n 3, 21, 3, 0, .null, true),
  (34, .aload_n 0, 22, 0, 0, .null, false),
  (35, .getfield 121, 23, 6, 10, .null, false),
  (38, .if_icmp .ge 40, 24, 43, 0, .null, false),
  (41, .iconst 0, 25, 0, 0, .int 0, false),
  (42, .istore 4, 26, 4, 0, .null, false),
  (44, .iload 4, 27, 4, 0, .null, true),
  (46, .bipush 7, 28, 0, 0, .int 7, false),
  (48, .if_icmp .ge 24, 29, 41, 0, .null, false),
  (51, .ldc2_w 244, 30, 0, 0, .long 31, false),
  (54, .lload_n 1, 31, 1, 0, .null, false),
  (55, .lmul, 32, 0, 0, .null, false)]
def q_X6_digest_1 : List mm_N := [(56, .aload_n 0, 33, 0, 0, .null, false),
  (57, .iload_n 3, 34, 3, 0, .null, false),
  (58, .iload 4, 35, 4, 0, .null, false),
  (60, .invokevirtual 138, 36, 146, 3, .null, false),
  (63, .i2l, 37, 0, 0, .null, false),
  (64, .ladd, 38, 0, 0, .null, false),
  (65, .lstore_n 1, 39, 1, 0, .null, false),
  (66, .iinc 4 1, 40, 4, 0, .int 1, false),
  (69, .goto (-25), 0, 26, 0, .null, false),
  (72, .iinc 3 1, 42, 3, 0, .int 1, false),
  (75, .goto (-42), 0, 20, 0, .null, false),
  (78, .iconst 0, 44, 0, 0, .int 0, false),
  (79, .istore_n 3, 45, 3, 0, .null, false),
  (80, .iload_n 3, 46, 3, 0, .null, true),
  (81, .iconst 3, 47, 0, 0, .int 3, false),
  (82, .if_icmp .ge 36, 48, 67, 0, .null, false),
  (85, .ldc2_w 244, 49, 0, 0, .long 31, false),
  (88, .lload_n 1, 50, 1, 0, .null, false),
  (89, .lmul, 51, 0, 0, .null, false),
  (90, .aload_n 0, 52, 0, 0, .null, false),
  (91, .getfield 50, 53, 6, 17, .null, false),
  (94, .iload_n 3, 54, 3, 0, .null, false),
  (95, .iaload, 55, 0, 0, .null, false),
  (96, .ifCond .ge 7, 56, 58, 0, .null, false),
  (99, .iconst (-1), 57, 0, 0, .int (-1), false),
  (100, .goto 9, 0, 62, 0, .null, false),
  (103, .aload_n 0, 59, 0, 0, .null, false),
  (104, .getfield 50, 60, 6, 17, .null, false),
  (107, .iload_n 3, 61, 3, 0, .null, false),
  (108, .iaload, 62, 0, 0, .null, false),
  (109, .i2l, 63, 0, 0, .null, true),
  (110, .ladd, 64, 0, 0, .null, false)]
def q_X6_digest_2 : List mm_N := [(111, .lstore_n 1, 65, 1, 0, .null, false),
  (112, .iinc 3 1, 66, 3, 0, .int 1, false),
  (115, .goto (-35), 0, 45, 0, .null, false),
  (118, .iconst 0, 68, 0, 0, .int 0, false),
  (119, .istore_n 3, 69, 3, 0, .null, false),
  (120, .iload_n 3, 70, 3, 0, .null, true),
  (121, .bipush 6, 71, 0, 0, .int 6, false),
  (123, .if_icmp .ge 76, 72, 115, 0, .null, false),
  (126, .ldc2_w 244, 73, 0, 0, .long 31, false),
  (129, .lload_n 1, 74, 1, 0, .null, false),
  (130, .lmul, 75, 0, 0, .null, false),
  (131, .aload_n 0, 76, 0, 0, .null, false),
  (132, .getfield 7, 77, 6, 0, .null, false),
  (135, .iload_n 3, 78, 3, 0, .null, false),
  (136, .iaload, 79, 0, 0, .null, false),
  (137, .ifCond .ge 7, 80, 82, 0, .null, false),
  (140, .iconst (-1), 81, 0, 0, .int (-1), false),
  (141, .goto 9, 0, 86, 0, .null, false),
  (144, .aload_n 0, 83, 0, 0, .null, false),
  (145, .getfield 7, 84, 6, 0, .null, false),
  (148, .iload_n 3, 85, 3, 0, .null, false),
  (149, .iaload, 86, 0, 0, .null, false),
  (150, .i2l, 87, 0, 0, .null, true),
  (151, .ladd, 88, 0, 0, .null, false),
  (152, .lstore_n 1, 89, 1, 0, .null, false),
  (153, .iconst 0, 90, 0, 0, .int 0, false),
  (154, .istore 4, 91, 4, 0, .null, false),
  (156, .iload 4, 92, 4, 0, .null, true),
  (158, .aload_n 0, 93, 0, 0, .null, false),
  (159, .getfield 7, 94, 6, 0, .null, false),
  (162, .iload_n 3, 95, 3, 0, .null, false),
  (163, .iaload, 96, 0, 0, .null, false)]
def q_X6_digest_3 : List mm_N := [(164, .if_icmp .ge 29, 97, 113, 0, .null, false),
  (167, .ldc2_w 244, 98, 0, 0, .long 31, false),
  (170, .lload_n 1, 99, 1, 0, .null, false),
  (171, .lmul, 100, 0, 0, .null, false),
  (172, .aload_n 0, 101, 0, 0, .null, false),
  (173, .getfield 13, 102, 6, 1, .null, false),
  (176, .bipush 40, 103, 0, 0, .int 40, false),
  (178, .iload_n 3, 104, 3, 0, .null, false),
  (179, .imul, 105, 0, 0, .null, false),
  (180, .iload 4, 106, 4, 0, .null, false),
  (182, .iadd, 107, 0, 0, .null, false),
  (183, .iaload, 108, 0, 0, .null, false),
  (184, .i2l, 109, 0, 0, .null, false),
  (185, .ladd, 110, 0, 0, .null, false),
  (186, .lstore_n 1, 111, 1, 0, .null, false),
  (187, .iinc 4 1, 112, 4, 0, .int 1, false),
  (190, .goto (-34), 0, 91, 0, .null, false),
  (193, .iinc 3 1, 114, 3, 0, .int 1, false),
  (196, .goto (-76), 0, 69, 0, .null, false),
  (199, .iconst 0, 116, 0, 0, .int 0, false),
  (200, .istore_n 3, 117, 3, 0, .null, false),
  (201, .iload_n 3, 118, 3, 0, .null, true),
  (202, .iconst 4, 119, 0, 0, .int 4, false),
  (203, .if_icmp .ge 76, 120, 163, 0, .null, false),
  (206, .ldc2_w 244, 121, 0, 0, .long 31, false),
  (209, .lload_n 1, 122, 1, 0, .null, false),
  (210, .lmul, 123, 0, 0, .null, false),
  (211, .aload_n 0, 124, 0, 0, .null, false),
  (212, .getfield 16, 125, 6, 2, .null, false),
  (215, .iload_n 3, 126, 3, 0, .null, false),
  (216, .iaload, 127, 0, 0, .null, false),
  (217, .ifCond .ge 7, 128, 130, 0, .null, false)]
def q_X6_digest_4 : List mm_N := [(220, .iconst (-1), 129, 0, 0, .int (-1), false),
  (221, .goto 9, 0, 134, 0, .null, false),
  (224, .aload_n 0, 131, 0, 0, .null, false),
  (225, .getfield 16, 132, 6, 2, .null, false),
  (228, .iload_n 3, 133, 3, 0, .null, false),
  (229, .iaload, 134, 0, 0, .null, false),
  (230, .i2l, 135, 0, 0, .null, true),
  (231, .ladd, 136, 0, 0, .null, false),
  (232, .lstore_n 1, 137, 1, 0, .null, false),
  (233, .iconst 0, 138, 0, 0, .int 0, false),
  (234, .istore 4, 139, 4, 0, .null, false),
  (236, .iload 4, 140, 4, 0, .null, true),
  (238, .aload_n 0, 141, 0, 0, .null, false),
  (239, .getfield 16, 142, 6, 2, .null, false),
  (242, .iload_n 3, 143, 3, 0, .null, false),
  (243, .iaload, 144, 0, 0, .null, false),
  (244, .if_icmp .ge 29, 145, 161, 0, .null, false),
  (247, .ldc2_w 244, 146, 0, 0, .long 31, false),
  (250, .lload_n 1, 147, 1, 0, .null, false),
  (251, .lmul, 148, 0, 0, .null, false),
  (252, .aload_n 0, 149, 0, 0, .null, false),
  (253, .getfield 19, 150, 6, 3, .null, false),
  (256, .bipush 80, 151, 0, 0, .int 80, false),
  (258, .iload_n 3, 152, 3, 0, .null, false),
  (259, .imul, 153, 0, 0, .null, false),
  (260, .iload 4, 154, 4, 0, .null, false),
  (262, .iadd, 155, 0, 0, .null, false),
  (263, .iaload, 156, 0, 0, .null, false),
  (264, .i2l, 157, 0, 0, .null, false),
  (265, .ladd, 158, 0, 0, .null, false),
  (266, .lstore_n 1, 159, 1, 0, .null, false),
  (267, .iinc 4 1, 160, 4, 0, .int 1, false)]
def q_X6_digest_5 : List mm_N := [(270, .goto (-34), 0, 139, 0, .null, false),
  (273, .iinc 3 1, 162, 3, 0, .int 1, false),
  (276, .goto (-75), 0, 117, 0, .null, false),
  (279, .lload_n 1, 164, 1, 0, .null, false),
  (280, .lreturn, 0, 0, 0, .null, false)]
def q_X6_digest : List (List mm_N) := [q_X6_digest_0, q_X6_digest_1, q_X6_digest_2, q_X6_digest_3, q_X6_digest_4, q_X6_digest_5]
def q_J6_bitCount_0f7a4_0 : List mm_N := [(0, .iload_n 0, 1, 0, 0, .null, false),
  (1, .iload_n 0, 2, 0, 0, .null, false),
  (2, .iconst 1, 3, 0, 0, .int 1, false),
  (3, .iushr, 4, 0, 0, .null, false),
  (4, .ldc_w 265, 5, 0, 0, .int 1431655765, false),
  (7, .iand, 6, 0, 0, .null, false),
  (8, .isub, 7, 0, 0, .null, false),
  (9, .istore_n 0, 8, 0, 0, .null, false),
  (10, .iload_n 0, 9, 0, 0, .null, false),
  (11, .ldc_w 266, 10, 0, 0, .int 858993459, false),
  (14, .iand, 11, 0, 0, .null, false),
  (15, .iload_n 0, 12, 0, 0, .null, false),
  (16, .iconst 2, 13, 0, 0, .int 2, false),
  (17, .iushr, 14, 0, 0, .null, false),
  (18, .ldc_w 266, 15, 0, 0, .int 858993459, false),
  (21, .iand, 16, 0, 0, .null, false),
  (22, .iadd, 17, 0, 0, .null, false),
  (23, .istore_n 0, 18, 0, 0, .null, false),
  (24, .iload_n 0, 19, 0, 0, .null, false),
  (25, .iload_n 0, 20, 0, 0, .null, false),
  (26, .iconst 4, 21, 0, 0, .int 4, false),
  (27, .iushr, 22, 0, 0, .null, false),
  (28, .iadd, 23, 0, 0, .null, false),
  (29, .ldc_w 267, 24, 0, 0, .int 252645135, false),
  (32, .iand, 25, 0, 0, .null, false),
  (33, .istore_n 0, 26, 0, 0, .null, false),
  (34, .iload_n 0, 27, 0, 0, .null, false),
  (35, .iload_n 0, 28, 0, 0, .null, false),
  (36, .bipush 8, 29, 0, 0, .int 8, false),
  (38, .iushr, 30, 0, 0, .null, false),
  (39, .iadd, 31, 0, 0, .null, false),
  (40, .istore_n 0, 32, 0, 0, .null, false)]
def q_J6_bitCount_0f7a4_1 : List mm_N := [(41, .iload_n 0, 33, 0, 0, .null, false),
  (42, .iload_n 0, 34, 0, 0, .null, false),
  (43, .bipush 16, 35, 0, 0, .int 16, false),
  (45, .iushr, 36, 0, 0, .null, false),
  (46, .iadd, 37, 0, 0, .null, false),
  (47, .istore_n 0, 38, 0, 0, .null, false),
  (48, .iload_n 0, 39, 0, 0, .null, false),
  (49, .bipush 63, 40, 0, 0, .int 63, false),
  (51, .iand, 41, 0, 0, .null, false),
  (52, .ireturn, 0, 0, 0, .null, false)]
def q_J6_bitCount_0f7a4 : List (List mm_N) := [q_J6_bitCount_0f7a4_0, q_J6_bitCount_0f7a4_1]
def q_L_law_0 : List mm_N := [(0, .new 7, 1, 5, 0, .null, false),
  (3, .dup, 2, 0, 0, .null, false),
  (4, .invokespecial 9, 3, 51, 1, .null, false),
  (7, .astore_n 1, 4, 1, 0, .null, false),
  (8, .new 10, 5, 6, 0, .null, false),
  (11, .dup, 6, 0, 0, .null, false),
  (12, .invokespecial 12, 7, 116, 1, .null, false),
  (15, .astore_n 2, 8, 2, 0, .null, false),
  (16, .iconst 0, 9, 0, 0, .int 0, false),
  (17, .istore_n 3, 10, 3, 0, .null, false),
  (18, .iload_n 3, 11, 3, 0, .null, true),
  (19, .aload_n 0, 12, 0, 0, .null, false),
  (20, .arraylength, 13, 0, 0, .null, false),
  (21, .bipush 6, 14, 0, 0, .int 6, false),
  (23, .isub, 15, 0, 0, .null, false),
  (24, .if_icmp .gt 1489, 16, 1003, 0, .null, false),
  (27, .aload_n 0, 17, 0, 0, .null, false),
  (28, .iload_n 3, 18, 3, 0, .null, false),
  (29, .iaload, 19, 0, 0, .null, false),
  (30, .bipush 63, 20, 0, 0, .int 63, false),
  (32, .iand, 21, 0, 0, .null, false),
  (33, .tableswitch 1474 0 47 #[207, 240, 283, 316, 339, 402, 425, 458, 501, 524, 547, 580, 613, 646, 679, 742, 765, 788, 811, 834, 847, 870, 883, 906, 929, 952, 975, 988, 1021, 1054, 1077, 1100, 1113, 1146, 1179, 1202, 1225, 1238, 1271, 1294, 1327, 1360, 1373, 1387, 1401, 1424, 1437, 1460], 0, 0, 1001, .null, false),
  (240, .aload_n 1, 23, 1, 0, .null, false),
  (241, .aload_n 0, 24, 0, 0, .null, false),
  (242, .iload_n 3, 25, 3, 0, .null, false),
  (243, .iconst 1, 26, 0, 0, .int 1, false),
  (244, .iadd, 27, 0, 0, .null, false),
  (245, .iaload, 28, 0, 0, .null, false),
  (246, .aload_n 0, 29, 0, 0, .null, false),
  (247, .iload_n 3, 30, 3, 0, .null, false),
  (248, .iconst 2, 31, 0, 0, .int 2, false),
  (249, .iadd, 32, 0, 0, .null, false)]
def q_L_law_1 : List mm_N := [(250, .iaload, 33, 0, 0, .null, false),
  (251, .invokevirtual 13, 34, 52, 3, .null, false),
  (254, .aload_n 2, 35, 2, 0, .null, false),
  (255, .aload_n 0, 36, 0, 0, .null, false),
  (256, .iload_n 3, 37, 3, 0, .null, false),
  (257, .iconst 1, 38, 0, 0, .int 1, false),
  (258, .iadd, 39, 0, 0, .null, false),
  (259, .iaload, 40, 0, 0, .null, false),
  (260, .aload_n 0, 41, 0, 0, .null, false),
  (261, .iload_n 3, 42, 3, 0, .null, false),
  (262, .iconst 2, 43, 0, 0, .int 2, false),
  (263, .iadd, 44, 0, 0, .null, false),
  (264, .iaload, 45, 0, 0, .null, false),
  (265, .invokevirtual 17, 46, 124, 3, .null, false),
  (268, .if_icmp .eq 1239, 47, 1001, 0, .null, false),
  (271, .iconst 0, 48, 0, 0, .int 0, false),
  (272, .ireturn, 0, 0, 0, .null, false),
  (273, .aload_n 1, 50, 1, 0, .null, false),
  (274, .aload_n 0, 51, 0, 0, .null, false),
  (275, .iload_n 3, 52, 3, 0, .null, false),
  (276, .iconst 1, 53, 0, 0, .int 1, false),
  (277, .iadd, 54, 0, 0, .null, false),
  (278, .iaload, 55, 0, 0, .null, false),
  (279, .aload_n 0, 56, 0, 0, .null, false),
  (280, .iload_n 3, 57, 3, 0, .null, false),
  (281, .iconst 2, 58, 0, 0, .int 2, false),
  (282, .iadd, 59, 0, 0, .null, false),
  (283, .iaload, 60, 0, 0, .null, false),
  (284, .aload_n 0, 61, 0, 0, .null, false),
  (285, .iload_n 3, 62, 3, 0, .null, false),
  (286, .iconst 3, 63, 0, 0, .int 3, false),
  (287, .iadd, 64, 0, 0, .null, false)]
def q_L_law_2 : List mm_N := [(288, .iaload, 65, 0, 0, .null, false),
  (289, .invokevirtual 18, 66, 53, 4, .null, false),
  (292, .aload_n 2, 67, 2, 0, .null, false),
  (293, .aload_n 0, 68, 0, 0, .null, false),
  (294, .iload_n 3, 69, 3, 0, .null, false),
  (295, .iconst 1, 70, 0, 0, .int 1, false),
  (296, .iadd, 71, 0, 0, .null, false),
  (297, .iaload, 72, 0, 0, .null, false),
  (298, .aload_n 0, 73, 0, 0, .null, false),
  (299, .iload_n 3, 74, 3, 0, .null, false),
  (300, .iconst 2, 75, 0, 0, .int 2, false),
  (301, .iadd, 76, 0, 0, .null, false),
  (302, .iaload, 77, 0, 0, .null, false),
  (303, .aload_n 0, 78, 0, 0, .null, false),
  (304, .iload_n 3, 79, 3, 0, .null, false),
  (305, .iconst 3, 80, 0, 0, .int 3, false),
  (306, .iadd, 81, 0, 0, .null, false),
  (307, .iaload, 82, 0, 0, .null, false),
  (308, .invokevirtual 22, 83, 125, 4, .null, false),
  (311, .if_icmp .eq 1196, 84, 1001, 0, .null, false),
  (314, .iconst 0, 85, 0, 0, .int 0, false),
  (315, .ireturn, 0, 0, 0, .null, false),
  (316, .aload_n 1, 87, 1, 0, .null, false),
  (317, .aload_n 0, 88, 0, 0, .null, false),
  (318, .iload_n 3, 89, 3, 0, .null, false),
  (319, .iconst 1, 90, 0, 0, .int 1, false),
  (320, .iadd, 91, 0, 0, .null, false),
  (321, .iaload, 92, 0, 0, .null, false),
  (322, .aload_n 0, 93, 0, 0, .null, false),
  (323, .iload_n 3, 94, 3, 0, .null, false),
  (324, .iconst 2, 95, 0, 0, .int 2, false),
  (325, .iadd, 96, 0, 0, .null, false)]
def q_L_law_3 : List mm_N := [(326, .iaload, 97, 0, 0, .null, false),
  (327, .invokevirtual 23, 98, 54, 3, .null, false),
  (330, .aload_n 2, 99, 2, 0, .null, false),
  (331, .aload_n 0, 100, 0, 0, .null, false),
  (332, .iload_n 3, 101, 3, 0, .null, false),
  (333, .iconst 1, 102, 0, 0, .int 1, false),
  (334, .iadd, 103, 0, 0, .null, false),
  (335, .iaload, 104, 0, 0, .null, false),
  (336, .aload_n 0, 105, 0, 0, .null, false),
  (337, .iload_n 3, 106, 3, 0, .null, false),
  (338, .iconst 2, 107, 0, 0, .int 2, false),
  (339, .iadd, 108, 0, 0, .null, false),
  (340, .iaload, 109, 0, 0, .null, false),
  (341, .invokevirtual 26, 110, 126, 3, .null, false),
  (344, .if_icmp .eq 1163, 111, 1001, 0, .null, false),
  (347, .iconst 0, 112, 0, 0, .int 0, false),
  (348, .ireturn, 0, 0, 0, .null, false),
  (349, .aload_n 1, 114, 1, 0, .null, false),
  (350, .aload_n 0, 115, 0, 0, .null, false),
  (351, .iload_n 3, 116, 3, 0, .null, false),
  (352, .iconst 1, 117, 0, 0, .int 1, false),
  (353, .iadd, 118, 0, 0, .null, false),
  (354, .iaload, 119, 0, 0, .null, false),
  (355, .invokevirtual 27, 120, 55, 2, .null, false),
  (358, .aload_n 2, 121, 2, 0, .null, false),
  (359, .aload_n 0, 122, 0, 0, .null, false),
  (360, .iload_n 3, 123, 3, 0, .null, false),
  (361, .iconst 1, 124, 0, 0, .int 1, false),
  (362, .iadd, 125, 0, 0, .null, false),
  (363, .iaload, 126, 0, 0, .null, false),
  (364, .invokevirtual 31, 127, 127, 2, .null, false),
  (367, .if_icmp .eq 1140, 128, 1001, 0, .null, false)]
def q_L_law_4 : List mm_N := [(370, .iconst 0, 129, 0, 0, .int 0, false),
  (371, .ireturn, 0, 0, 0, .null, false),
  (372, .aload_n 1, 131, 1, 0, .null, false),
  (373, .aload_n 0, 132, 0, 0, .null, false),
  (374, .iload_n 3, 133, 3, 0, .null, false),
  (375, .iconst 1, 134, 0, 0, .int 1, false),
  (376, .iadd, 135, 0, 0, .null, false),
  (377, .iaload, 136, 0, 0, .null, false),
  (378, .aload_n 0, 137, 0, 0, .null, false),
  (379, .iload_n 3, 138, 3, 0, .null, false),
  (380, .iconst 2, 139, 0, 0, .int 2, false),
  (381, .iadd, 140, 0, 0, .null, false),
  (382, .iaload, 141, 0, 0, .null, false),
  (383, .aload_n 0, 142, 0, 0, .null, false),
  (384, .iload_n 3, 143, 3, 0, .null, false),
  (385, .iconst 3, 144, 0, 0, .int 3, false),
  (386, .iadd, 145, 0, 0, .null, false),
  (387, .iaload, 146, 0, 0, .null, false),
  (388, .aload_n 0, 147, 0, 0, .null, false),
  (389, .iload_n 3, 148, 3, 0, .null, false),
  (390, .iconst 4, 149, 0, 0, .int 4, false),
  (391, .iadd, 150, 0, 0, .null, false),
  (392, .iaload, 151, 0, 0, .null, false),
  (393, .aload_n 0, 152, 0, 0, .null, false),
  (394, .iload_n 3, 153, 3, 0, .null, false),
  (395, .iconst 5, 154, 0, 0, .int 5, false),
  (396, .iadd, 155, 0, 0, .null, false),
  (397, .iaload, 156, 0, 0, .null, false),
  (398, .invokevirtual 32, 157, 56, 6, .null, false),
  (401, .aload_n 2, 158, 2, 0, .null, false),
  (402, .aload_n 0, 159, 0, 0, .null, false),
  (403, .iload_n 3, 160, 3, 0, .null, false)]
def q_L_law_5 : List mm_N := [(404, .iconst 1, 161, 0, 0, .int 1, false),
  (405, .iadd, 162, 0, 0, .null, false),
  (406, .iaload, 163, 0, 0, .null, false),
  (407, .aload_n 0, 164, 0, 0, .null, false),
  (408, .iload_n 3, 165, 3, 0, .null, false),
  (409, .iconst 2, 166, 0, 0, .int 2, false),
  (410, .iadd, 167, 0, 0, .null, false),
  (411, .iaload, 168, 0, 0, .null, false),
  (412, .aload_n 0, 169, 0, 0, .null, false),
  (413, .iload_n 3, 170, 3, 0, .null, false),
  (414, .iconst 3, 171, 0, 0, .int 3, false),
  (415, .iadd, 172, 0, 0, .null, false),
  (416, .iaload, 173, 0, 0, .null, false),
  (417, .aload_n 0, 174, 0, 0, .null, false),
  (418, .iload_n 3, 175, 3, 0, .null, false),
  (419, .iconst 4, 176, 0, 0, .int 4, false),
  (420, .iadd, 177, 0, 0, .null, false),
  (421, .iaload, 178, 0, 0, .null, false),
  (422, .aload_n 0, 179, 0, 0, .null, false),
  (423, .iload_n 3, 180, 3, 0, .null, false),
  (424, .iconst 5, 181, 0, 0, .int 5, false),
  (425, .iadd, 182, 0, 0, .null, false),
  (426, .iaload, 183, 0, 0, .null, false),
  (427, .invokevirtual 36, 184, 129, 6, .null, false),
  (430, .if_icmp .eq 1077, 185, 1001, 0, .null, false),
  (433, .iconst 0, 186, 0, 0, .int 0, false),
  (434, .ireturn, 0, 0, 0, .null, false),
  (435, .aload_n 1, 188, 1, 0, .null, false),
  (436, .aload_n 0, 189, 0, 0, .null, false),
  (437, .iload_n 3, 190, 3, 0, .null, false),
  (438, .iconst 1, 191, 0, 0, .int 1, false),
  (439, .iadd, 192, 0, 0, .null, false)]
def q_L_law_6 : List mm_N := [(440, .iaload, 193, 0, 0, .null, false),
  (441, .invokevirtual 37, 194, 57, 2, .null, false),
  (444, .aload_n 2, 195, 2, 0, .null, false),
  (445, .aload_n 0, 196, 0, 0, .null, false),
  (446, .iload_n 3, 197, 3, 0, .null, false),
  (447, .iconst 1, 198, 0, 0, .int 1, false),
  (448, .iadd, 199, 0, 0, .null, false),
  (449, .iaload, 200, 0, 0, .null, false),
  (450, .invokevirtual 40, 201, 130, 2, .null, false),
  (453, .if_icmp .eq 1054, 202, 1001, 0, .null, false),
  (456, .iconst 0, 203, 0, 0, .int 0, false),
  (457, .ireturn, 0, 0, 0, .null, false),
  (458, .aload_n 1, 205, 1, 0, .null, false),
  (459, .aload_n 0, 206, 0, 0, .null, false),
  (460, .iload_n 3, 207, 3, 0, .null, false),
  (461, .iconst 1, 208, 0, 0, .int 1, false),
  (462, .iadd, 209, 0, 0, .null, false),
  (463, .iaload, 210, 0, 0, .null, false),
  (464, .aload_n 0, 211, 0, 0, .null, false),
  (465, .iload_n 3, 212, 3, 0, .null, false),
  (466, .iconst 2, 213, 0, 0, .int 2, false),
  (467, .iadd, 214, 0, 0, .null, false),
  (468, .iaload, 215, 0, 0, .null, false),
  (469, .invokevirtual 41, 216, 58, 3, .null, false),
  (472, .aload_n 2, 217, 2, 0, .null, false),
  (473, .aload_n 0, 218, 0, 0, .null, false),
  (474, .iload_n 3, 219, 3, 0, .null, false),
  (475, .iconst 1, 220, 0, 0, .int 1, false),
  (476, .iadd, 221, 0, 0, .null, false),
  (477, .iaload, 222, 0, 0, .null, false),
  (478, .aload_n 0, 223, 0, 0, .null, false),
  (479, .iload_n 3, 224, 3, 0, .null, false)]
def q_L_law_7 : List mm_N := [(480, .iconst 2, 225, 0, 0, .int 2, false),
  (481, .iadd, 226, 0, 0, .null, false),
  (482, .iaload, 227, 0, 0, .null, false),
  (483, .invokevirtual 44, 228, 131, 3, .null, false),
  (486, .if_icmp .eq 1021, 229, 1001, 0, .null, false),
  (489, .iconst 0, 230, 0, 0, .int 0, false),
  (490, .ireturn, 0, 0, 0, .null, false),
  (491, .aload_n 1, 232, 1, 0, .null, false),
  (492, .aload_n 0, 233, 0, 0, .null, false),
  (493, .iload_n 3, 234, 3, 0, .null, false),
  (494, .iconst 1, 235, 0, 0, .int 1, false),
  (495, .iadd, 236, 0, 0, .null, false),
  (496, .iaload, 237, 0, 0, .null, false),
  (497, .aload_n 0, 238, 0, 0, .null, false),
  (498, .iload_n 3, 239, 3, 0, .null, false),
  (499, .iconst 2, 240, 0, 0, .int 2, false),
  (500, .iadd, 241, 0, 0, .null, false),
  (501, .iaload, 242, 0, 0, .null, false),
  (502, .aload_n 0, 243, 0, 0, .null, false),
  (503, .iload_n 3, 244, 3, 0, .null, false),
  (504, .iconst 3, 245, 0, 0, .int 3, false),
  (505, .iadd, 246, 0, 0, .null, false),
  (506, .iaload, 247, 0, 0, .null, false),
  (507, .invokevirtual 45, 248, 59, 4, .null, false),
  (510, .aload_n 2, 249, 2, 0, .null, false),
  (511, .aload_n 0, 250, 0, 0, .null, false),
  (512, .iload_n 3, 251, 3, 0, .null, false),
  (513, .iconst 1, 252, 0, 0, .int 1, false),
  (514, .iadd, 253, 0, 0, .null, false),
  (515, .iaload, 254, 0, 0, .null, false),
  (516, .aload_n 0, 255, 0, 0, .null, false),
  (517, .iload_n 3, 256, 3, 0, .null, false)]
def q_L_law_8 : List mm_N := [(518, .iconst 2, 257, 0, 0, .int 2, false),
  (519, .iadd, 258, 0, 0, .null, false),
  (520, .iaload, 259, 0, 0, .null, false),
  (521, .aload_n 0, 260, 0, 0, .null, false),
  (522, .iload_n 3, 261, 3, 0, .null, false),
  (523, .iconst 3, 262, 0, 0, .int 3, false),
  (524, .iadd, 263, 0, 0, .null, false),
  (525, .iaload, 264, 0, 0, .null, false),
  (526, .invokevirtual 48, 265, 132, 4, .null, false),
  (529, .if_icmp .eq 978, 266, 1001, 0, .null, false),
  (532, .iconst 0, 267, 0, 0, .int 0, false),
  (533, .ireturn, 0, 0, 0, .null, false),
  (534, .aload_n 1, 269, 1, 0, .null, false),
  (535, .aload_n 0, 270, 0, 0, .null, false),
  (536, .iload_n 3, 271, 3, 0, .null, false),
  (537, .iconst 1, 272, 0, 0, .int 1, false),
  (538, .iadd, 273, 0, 0, .null, false),
  (539, .iaload, 274, 0, 0, .null, false),
  (540, .invokevirtual 49, 275, 60, 2, .null, false),
  (543, .aload_n 2, 276, 2, 0, .null, false),
  (544, .aload_n 0, 277, 0, 0, .null, false),
  (545, .iload_n 3, 278, 3, 0, .null, false),
  (546, .iconst 1, 279, 0, 0, .int 1, false),
  (547, .iadd, 280, 0, 0, .null, false),
  (548, .iaload, 281, 0, 0, .null, false),
  (549, .invokevirtual 52, 282, 140, 2, .null, false),
  (552, .if_icmp .eq 955, 283, 1001, 0, .null, false),
  (555, .iconst 0, 284, 0, 0, .int 0, false),
  (556, .ireturn, 0, 0, 0, .null, false),
  (557, .aload_n 1, 286, 1, 0, .null, false),
  (558, .aload_n 0, 287, 0, 0, .null, false),
  (559, .iload_n 3, 288, 3, 0, .null, false)]
def q_L_law_9 : List mm_N := [(560, .iconst 1, 289, 0, 0, .int 1, false),
  (561, .iadd, 290, 0, 0, .null, false),
  (562, .iaload, 291, 0, 0, .null, false),
  (563, .invokevirtual 53, 292, 61, 2, .null, false),
  (566, .aload_n 2, 293, 2, 0, .null, false),
  (567, .aload_n 0, 294, 0, 0, .null, false),
  (568, .iload_n 3, 295, 3, 0, .null, false),
  (569, .iconst 1, 296, 0, 0, .int 1, false),
  (570, .iadd, 297, 0, 0, .null, false),
  (571, .iaload, 298, 0, 0, .null, false),
  (572, .invokevirtual 56, 299, 142, 2, .null, false),
  (575, .if_icmp .eq 932, 300, 1001, 0, .null, false),
  (578, .iconst 0, 301, 0, 0, .int 0, false),
  (579, .ireturn, 0, 0, 0, .null, false),
  (580, .aload_n 1, 303, 1, 0, .null, false),
  (581, .aload_n 0, 304, 0, 0, .null, false),
  (582, .iload_n 3, 305, 3, 0, .null, false),
  (583, .iconst 1, 306, 0, 0, .int 1, false),
  (584, .iadd, 307, 0, 0, .null, false),
  (585, .iaload, 308, 0, 0, .null, false),
  (586, .aload_n 0, 309, 0, 0, .null, false),
  (587, .iload_n 3, 310, 3, 0, .null, false),
  (588, .iconst 2, 311, 0, 0, .int 2, false),
  (589, .iadd, 312, 0, 0, .null, false),
  (590, .iaload, 313, 0, 0, .null, false),
  (591, .invokevirtual 57, 314, 62, 3, .null, false),
  (594, .aload_n 2, 315, 2, 0, .null, false),
  (595, .aload_n 0, 316, 0, 0, .null, false),
  (596, .iload_n 3, 317, 3, 0, .null, false),
  (597, .iconst 1, 318, 0, 0, .int 1, false),
  (598, .iadd, 319, 0, 0, .null, false),
  (599, .iaload, 320, 0, 0, .null, false)]
def q_L_law_10 : List mm_N := [(600, .aload_n 0, 321, 0, 0, .null, false),
  (601, .iload_n 3, 322, 3, 0, .null, false),
  (602, .iconst 2, 323, 0, 0, .int 2, false),
  (603, .iadd, 324, 0, 0, .null, false),
  (604, .iaload, 325, 0, 0, .null, false),
  (605, .invokevirtual 60, 326, 147, 3, .null, false),
  (608, .if_icmp .eq 899, 327, 1001, 0, .null, false),
  (611, .iconst 0, 328, 0, 0, .int 0, false),
  (612, .ireturn, 0, 0, 0, .null, false),
  (613, .aload_n 1, 330, 1, 0, .null, false),
  (614, .aload_n 0, 331, 0, 0, .null, false),
  (615, .iload_n 3, 332, 3, 0, .null, false),
  (616, .iconst 1, 333, 0, 0, .int 1, false),
  (617, .iadd, 334, 0, 0, .null, false),
  (618, .iaload, 335, 0, 0, .null, false),
  (619, .aload_n 0, 336, 0, 0, .null, false),
  (620, .iload_n 3, 337, 3, 0, .null, false),
  (621, .iconst 2, 338, 0, 0, .int 2, false),
  (622, .iadd, 339, 0, 0, .null, false),
  (623, .iaload, 340, 0, 0, .null, false),
  (624, .invokevirtual 61, 341, 63, 3, .null, false),
  (627, .aload_n 2, 342, 2, 0, .null, false),
  (628, .aload_n 0, 343, 0, 0, .null, false),
  (629, .iload_n 3, 344, 3, 0, .null, false),
  (630, .iconst 1, 345, 0, 0, .int 1, false),
  (631, .iadd, 346, 0, 0, .null, false),
  (632, .iaload, 347, 0, 0, .null, false),
  (633, .aload_n 0, 348, 0, 0, .null, false),
  (634, .iload_n 3, 349, 3, 0, .null, false),
  (635, .iconst 2, 350, 0, 0, .int 2, false),
  (636, .iadd, 351, 0, 0, .null, false),
  (637, .iaload, 352, 0, 0, .null, false)]
def q_L_law_11 : List mm_N := [(638, .invokevirtual 64, 353, 151, 3, .null, false),
  (641, .if_icmp .eq 866, 354, 1001, 0, .null, false),
  (644, .iconst 0, 355, 0, 0, .int 0, false),
  (645, .ireturn, 0, 0, 0, .null, false),
  (646, .aload_n 1, 357, 1, 0, .null, false),
  (647, .aload_n 0, 358, 0, 0, .null, false),
  (648, .iload_n 3, 359, 3, 0, .null, false),
  (649, .iconst 1, 360, 0, 0, .int 1, false),
  (650, .iadd, 361, 0, 0, .null, false),
  (651, .iaload, 362, 0, 0, .null, false),
  (652, .aload_n 0, 363, 0, 0, .null, false),
  (653, .iload_n 3, 364, 3, 0, .null, false),
  (654, .iconst 2, 365, 0, 0, .int 2, false),
  (655, .iadd, 366, 0, 0, .null, false),
  (656, .iaload, 367, 0, 0, .null, false),
  (657, .invokevirtual 65, 368, 64, 3, .null, false),
  (660, .aload_n 2, 369, 2, 0, .null, false),
  (661, .aload_n 0, 370, 0, 0, .null, false),
  (662, .iload_n 3, 371, 3, 0, .null, false),
  (663, .iconst 1, 372, 0, 0, .int 1, false),
  (664, .iadd, 373, 0, 0, .null, false),
  (665, .iaload, 374, 0, 0, .null, false),
  (666, .aload_n 0, 375, 0, 0, .null, false),
  (667, .iload_n 3, 376, 3, 0, .null, false),
  (668, .iconst 2, 377, 0, 0, .int 2, false),
  (669, .iadd, 378, 0, 0, .null, false),
  (670, .iaload, 379, 0, 0, .null, false),
  (671, .invokevirtual 68, 380, 152, 3, .null, false),
  (674, .if_icmp .eq 833, 381, 1001, 0, .null, false),
  (677, .iconst 0, 382, 0, 0, .int 0, false),
  (678, .ireturn, 0, 0, 0, .null, false),
  (679, .aload_n 1, 384, 1, 0, .null, false)]
def q_L_law_12 : List mm_N := [(680, .aload_n 0, 385, 0, 0, .null, false),
  (681, .iload_n 3, 386, 3, 0, .null, false),
  (682, .iconst 1, 387, 0, 0, .int 1, false),
  (683, .iadd, 388, 0, 0, .null, false),
  (684, .iaload, 389, 0, 0, .null, false),
  (685, .aload_n 0, 390, 0, 0, .null, false),
  (686, .iload_n 3, 391, 3, 0, .null, false),
  (687, .iconst 2, 392, 0, 0, .int 2, false),
  (688, .iadd, 393, 0, 0, .null, false),
  (689, .iaload, 394, 0, 0, .null, false),
  (690, .invokevirtual 69, 395, 65, 3, .null, false),
  (693, .aload_n 2, 396, 2, 0, .null, false),
  (694, .aload_n 0, 397, 0, 0, .null, false),
  (695, .iload_n 3, 398, 3, 0, .null, false),
  (696, .iconst 1, 399, 0, 0, .int 1, false),
  (697, .iadd, 400, 0, 0, .null, false),
  (698, .iaload, 401, 0, 0, .null, false),
  (699, .aload_n 0, 402, 0, 0, .null, false),
  (700, .iload_n 3, 403, 3, 0, .null, false),
  (701, .iconst 2, 404, 0, 0, .int 2, false),
  (702, .iadd, 405, 0, 0, .null, false),
  (703, .iaload, 406, 0, 0, .null, false),
  (704, .invokevirtual 72, 407, 153, 3, .null, false),
  (707, .if_icmp .eq 800, 408, 1001, 0, .null, false),
  (710, .iconst 0, 409, 0, 0, .int 0, false),
  (711, .ireturn, 0, 0, 0, .null, false),
  (712, .aload_n 1, 411, 1, 0, .null, false),
  (713, .aload_n 0, 412, 0, 0, .null, false),
  (714, .iload_n 3, 413, 3, 0, .null, false),
  (715, .iconst 1, 414, 0, 0, .int 1, false),
  (716, .iadd, 415, 0, 0, .null, false),
  (717, .iaload, 416, 0, 0, .null, false)]
def q_L_law_13 : List mm_N := [(718, .aload_n 0, 417, 0, 0, .null, false),
  (719, .iload_n 3, 418, 3, 0, .null, false),
  (720, .iconst 2, 419, 0, 0, .int 2, false),
  (721, .iadd, 420, 0, 0, .null, false),
  (722, .iaload, 421, 0, 0, .null, false),
  (723, .aload_n 0, 422, 0, 0, .null, false),
  (724, .iload_n 3, 423, 3, 0, .null, false),
  (725, .iconst 3, 424, 0, 0, .int 3, false),
  (726, .iadd, 425, 0, 0, .null, false),
  (727, .iaload, 426, 0, 0, .null, false),
  (728, .aload_n 0, 427, 0, 0, .null, false),
  (729, .iload_n 3, 428, 3, 0, .null, false),
  (730, .iconst 4, 429, 0, 0, .int 4, false),
  (731, .iadd, 430, 0, 0, .null, false),
  (732, .iaload, 431, 0, 0, .null, false),
  (733, .aload_n 0, 432, 0, 0, .null, false),
  (734, .iload_n 3, 433, 3, 0, .null, false),
  (735, .iconst 5, 434, 0, 0, .int 5, false),
  (736, .iadd, 435, 0, 0, .null, false),
  (737, .iaload, 436, 0, 0, .null, false),
  (738, .invokevirtual 73, 437, 66, 6, .null, false),
  (741, .aload_n 2, 438, 2, 0, .null, false),
  (742, .aload_n 0, 439, 0, 0, .null, false),
  (743, .iload_n 3, 440, 3, 0, .null, false),
  (744, .iconst 1, 441, 0, 0, .int 1, false),
  (745, .iadd, 442, 0, 0, .null, false),
  (746, .iaload, 443, 0, 0, .null, false),
  (747, .aload_n 0, 444, 0, 0, .null, false),
  (748, .iload_n 3, 445, 3, 0, .null, false),
  (749, .iconst 2, 446, 0, 0, .int 2, false),
  (750, .iadd, 447, 0, 0, .null, false),
  (751, .iaload, 448, 0, 0, .null, false)]
def q_L_law_14 : List mm_N := [(752, .aload_n 0, 449, 0, 0, .null, false),
  (753, .iload_n 3, 450, 3, 0, .null, false),
  (754, .iconst 3, 451, 0, 0, .int 3, false),
  (755, .iadd, 452, 0, 0, .null, false),
  (756, .iaload, 453, 0, 0, .null, false),
  (757, .aload_n 0, 454, 0, 0, .null, false),
  (758, .iload_n 3, 455, 3, 0, .null, false),
  (759, .iconst 4, 456, 0, 0, .int 4, false),
  (760, .iadd, 457, 0, 0, .null, false),
  (761, .iaload, 458, 0, 0, .null, false),
  (762, .aload_n 0, 459, 0, 0, .null, false),
  (763, .iload_n 3, 460, 3, 0, .null, false),
  (764, .iconst 5, 461, 0, 0, .int 5, false),
  (765, .iadd, 462, 0, 0, .null, false),
  (766, .iaload, 463, 0, 0, .null, false),
  (767, .invokevirtual 76, 464, 154, 6, .null, false),
  (770, .if_icmp .eq 737, 465, 1001, 0, .null, false),
  (773, .iconst 0, 466, 0, 0, .int 0, false),
  (774, .ireturn, 0, 0, 0, .null, false),
  (775, .aload_n 1, 468, 1, 0, .null, false),
  (776, .aload_n 0, 469, 0, 0, .null, false),
  (777, .iload_n 3, 470, 3, 0, .null, false),
  (778, .iconst 1, 471, 0, 0, .int 1, false),
  (779, .iadd, 472, 0, 0, .null, false),
  (780, .iaload, 473, 0, 0, .null, false),
  (781, .invokevirtual 77, 474, 67, 2, .null, false),
  (784, .aload_n 2, 475, 2, 0, .null, false),
  (785, .aload_n 0, 476, 0, 0, .null, false),
  (786, .iload_n 3, 477, 3, 0, .null, false),
  (787, .iconst 1, 478, 0, 0, .int 1, false),
  (788, .iadd, 479, 0, 0, .null, false),
  (789, .iaload, 480, 0, 0, .null, false)]
def q_L_law_15 : List mm_N := [(790, .invokevirtual 80, 481, 155, 2, .null, false),
  (793, .if_icmp .eq 714, 482, 1001, 0, .null, false),
  (796, .iconst 0, 483, 0, 0, .int 0, false),
  (797, .ireturn, 0, 0, 0, .null, false),
  (798, .aload_n 1, 485, 1, 0, .null, false),
  (799, .aload_n 0, 486, 0, 0, .null, false),
  (800, .iload_n 3, 487, 3, 0, .null, false),
  (801, .iconst 1, 488, 0, 0, .int 1, false),
  (802, .iadd, 489, 0, 0, .null, false),
  (803, .iaload, 490, 0, 0, .null, false),
  (804, .invokevirtual 81, 491, 68, 2, .null, false),
  (807, .aload_n 2, 492, 2, 0, .null, false),
  (808, .aload_n 0, 493, 0, 0, .null, false),
  (809, .iload_n 3, 494, 3, 0, .null, false),
  (810, .iconst 1, 495, 0, 0, .int 1, false),
  (811, .iadd, 496, 0, 0, .null, false),
  (812, .iaload, 497, 0, 0, .null, false),
  (813, .invokevirtual 84, 498, 156, 2, .null, false),
  (816, .if_icmp .eq 691, 499, 1001, 0, .null, false),
  (819, .iconst 0, 500, 0, 0, .int 0, false),
  (820, .ireturn, 0, 0, 0, .null, false),
  (821, .aload_n 1, 502, 1, 0, .null, false),
  (822, .aload_n 0, 503, 0, 0, .null, false),
  (823, .iload_n 3, 504, 3, 0, .null, false),
  (824, .iconst 1, 505, 0, 0, .int 1, false),
  (825, .iadd, 506, 0, 0, .null, false),
  (826, .iaload, 507, 0, 0, .null, false),
  (827, .invokevirtual 85, 508, 69, 2, .null, false),
  (830, .aload_n 2, 509, 2, 0, .null, false),
  (831, .aload_n 0, 510, 0, 0, .null, false),
  (832, .iload_n 3, 511, 3, 0, .null, false),
  (833, .iconst 1, 512, 0, 0, .int 1, false)]
def q_L_law_16 : List mm_N := [(834, .iadd, 513, 0, 0, .null, false),
  (835, .iaload, 514, 0, 0, .null, false),
  (836, .invokevirtual 88, 515, 157, 2, .null, false),
  (839, .if_icmp .eq 668, 516, 1001, 0, .null, false),
  (842, .iconst 0, 517, 0, 0, .int 0, false),
  (843, .ireturn, 0, 0, 0, .null, false),
  (844, .aload_n 1, 519, 1, 0, .null, false),
  (845, .aload_n 0, 520, 0, 0, .null, false),
  (846, .iload_n 3, 521, 3, 0, .null, false),
  (847, .iconst 1, 522, 0, 0, .int 1, false),
  (848, .iadd, 523, 0, 0, .null, false),
  (849, .iaload, 524, 0, 0, .null, false),
  (850, .invokevirtual 89, 525, 70, 2, .null, false),
  (853, .aload_n 2, 526, 2, 0, .null, false),
  (854, .aload_n 0, 527, 0, 0, .null, false),
  (855, .iload_n 3, 528, 3, 0, .null, false),
  (856, .iconst 1, 529, 0, 0, .int 1, false),
  (857, .iadd, 530, 0, 0, .null, false),
  (858, .iaload, 531, 0, 0, .null, false),
  (859, .invokevirtual 92, 532, 162, 2, .null, false),
  (862, .if_icmp .eq 645, 533, 1001, 0, .null, false),
  (865, .iconst 0, 534, 0, 0, .int 0, false),
  (866, .ireturn, 0, 0, 0, .null, false),
  (867, .aload_n 1, 536, 1, 0, .null, false),
  (868, .invokevirtual 93, 537, 71, 1, .null, false),
  (871, .aload_n 2, 538, 2, 0, .null, false),
  (872, .invokevirtual 97, 539, 166, 1, .null, false),
  (875, .if_icmp .eq 632, 540, 1001, 0, .null, false),
  (878, .iconst 0, 541, 0, 0, .int 0, false),
  (879, .ireturn, 0, 0, 0, .null, false),
  (880, .aload_n 1, 543, 1, 0, .null, false),
  (881, .aload_n 0, 544, 0, 0, .null, false)]
def q_L_law_17 : List mm_N := [(882, .iload_n 3, 545, 3, 0, .null, false),
  (883, .iconst 1, 546, 0, 0, .int 1, false),
  (884, .iadd, 547, 0, 0, .null, false),
  (885, .iaload, 548, 0, 0, .null, false),
  (886, .invokevirtual 98, 549, 72, 2, .null, false),
  (889, .aload_n 2, 550, 2, 0, .null, false),
  (890, .aload_n 0, 551, 0, 0, .null, false),
  (891, .iload_n 3, 552, 3, 0, .null, false),
  (892, .iconst 1, 553, 0, 0, .int 1, false),
  (893, .iadd, 554, 0, 0, .null, false),
  (894, .iaload, 555, 0, 0, .null, false),
  (895, .invokevirtual 101, 556, 167, 2, .null, false),
  (898, .if_icmp .eq 609, 557, 1001, 0, .null, false),
  (901, .iconst 0, 558, 0, 0, .int 0, false),
  (902, .ireturn, 0, 0, 0, .null, false),
  (903, .aload_n 1, 560, 1, 0, .null, false),
  (904, .invokevirtual 102, 561, 73, 1, .null, false),
  (907, .aload_n 2, 562, 2, 0, .null, false),
  (908, .invokevirtual 105, 563, 169, 1, .null, false),
  (911, .if_icmp .eq 596, 564, 1001, 0, .null, false),
  (914, .iconst 0, 565, 0, 0, .int 0, false),
  (915, .ireturn, 0, 0, 0, .null, false),
  (916, .aload_n 1, 567, 1, 0, .null, false),
  (917, .aload_n 0, 568, 0, 0, .null, false),
  (918, .iload_n 3, 569, 3, 0, .null, false),
  (919, .iconst 1, 570, 0, 0, .int 1, false),
  (920, .iadd, 571, 0, 0, .null, false),
  (921, .iaload, 572, 0, 0, .null, false),
  (922, .invokevirtual 106, 573, 74, 2, .null, false),
  (925, .aload_n 2, 574, 2, 0, .null, false),
  (926, .aload_n 0, 575, 0, 0, .null, false),
  (927, .iload_n 3, 576, 3, 0, .null, false)]
def q_L_law_18 : List mm_N := [(928, .iconst 1, 577, 0, 0, .int 1, false),
  (929, .iadd, 578, 0, 0, .null, false),
  (930, .iaload, 579, 0, 0, .null, false),
  (931, .invokevirtual 109, 580, 170, 2, .null, false),
  (934, .if_icmp .eq 573, 581, 1001, 0, .null, false),
  (937, .iconst 0, 582, 0, 0, .int 0, false),
  (938, .ireturn, 0, 0, 0, .null, false),
  (939, .aload_n 1, 584, 1, 0, .null, false),
  (940, .aload_n 0, 585, 0, 0, .null, false),
  (941, .iload_n 3, 586, 3, 0, .null, false),
  (942, .iconst 1, 587, 0, 0, .int 1, false),
  (943, .iadd, 588, 0, 0, .null, false),
  (944, .iaload, 589, 0, 0, .null, false),
  (945, .invokevirtual 110, 590, 75, 2, .null, false),
  (948, .aload_n 2, 591, 2, 0, .null, false),
  (949, .aload_n 0, 592, 0, 0, .null, false),
  (950, .iload_n 3, 593, 3, 0, .null, false),
  (951, .iconst 1, 594, 0, 0, .int 1, false),
  (952, .iadd, 595, 0, 0, .null, false),
  (953, .iaload, 596, 0, 0, .null, false),
  (954, .invokevirtual 113, 597, 171, 2, .null, false),
  (957, .if_icmp .eq 550, 598, 1001, 0, .null, false),
  (960, .iconst 0, 599, 0, 0, .int 0, false),
  (961, .ireturn, 0, 0, 0, .null, false),
  (962, .aload_n 1, 601, 1, 0, .null, false),
  (963, .aload_n 0, 602, 0, 0, .null, false),
  (964, .iload_n 3, 603, 3, 0, .null, false),
  (965, .iconst 1, 604, 0, 0, .int 1, false),
  (966, .iadd, 605, 0, 0, .null, false),
  (967, .iaload, 606, 0, 0, .null, false),
  (968, .invokevirtual 114, 607, 76, 2, .null, false),
  (971, .aload_n 2, 608, 2, 0, .null, false)]
def q_L_law_19 : List mm_N := [(972, .aload_n 0, 609, 0, 0, .null, false),
  (973, .iload_n 3, 610, 3, 0, .null, false),
  (974, .iconst 1, 611, 0, 0, .int 1, false),
  (975, .iadd, 612, 0, 0, .null, false),
  (976, .iaload, 613, 0, 0, .null, false),
  (977, .invokevirtual 117, 614, 173, 2, .null, false),
  (980, .if_icmp .eq 527, 615, 1001, 0, .null, false),
  (983, .iconst 0, 616, 0, 0, .int 0, false),
  (984, .ireturn, 0, 0, 0, .null, false),
  (985, .aload_n 1, 618, 1, 0, .null, false),
  (986, .aload_n 0, 619, 0, 0, .null, false),
  (987, .iload_n 3, 620, 3, 0, .null, false),
  (988, .iconst 1, 621, 0, 0, .int 1, false),
  (989, .iadd, 622, 0, 0, .null, false),
  (990, .iaload, 623, 0, 0, .null, false),
  (991, .invokevirtual 118, 624, 77, 2, .null, false),
  (994, .aload_n 2, 625, 2, 0, .null, false),
  (995, .aload_n 0, 626, 0, 0, .null, false),
  (996, .iload_n 3, 627, 3, 0, .null, false),
  (997, .iconst 1, 628, 0, 0, .int 1, false),
  (998, .iadd, 629, 0, 0, .null, false),
  (999, .iaload, 630, 0, 0, .null, false),
  (1000, .invokevirtual 121, 631, 174, 2, .null, false),
  (1003, .if_icmp .eq 504, 632, 1001, 0, .null, false),
  (1006, .iconst 0, 633, 0, 0, .int 0, false),
  (1007, .ireturn, 0, 0, 0, .null, false),
  (1008, .aload_n 1, 635, 1, 0, .null, false),
  (1009, .invokevirtual 122, 636, 78, 1, .null, false),
  (1012, .aload_n 2, 637, 2, 0, .null, false),
  (1013, .invokevirtual 125, 638, 175, 1, .null, false),
  (1016, .if_icmp .eq 491, 639, 1001, 0, .null, false),
  (1019, .iconst 0, 640, 0, 0, .int 0, false)]
def q_L_law_20 : List mm_N := [(1020, .ireturn, 0, 0, 0, .null, false),
  (1021, .aload_n 1, 642, 1, 0, .null, false),
  (1022, .aload_n 0, 643, 0, 0, .null, false),
  (1023, .iload_n 3, 644, 3, 0, .null, false),
  (1024, .iconst 1, 645, 0, 0, .int 1, false),
  (1025, .iadd, 646, 0, 0, .null, false),
  (1026, .iaload, 647, 0, 0, .null, false),
  (1027, .aload_n 0, 648, 0, 0, .null, false),
  (1028, .iload_n 3, 649, 3, 0, .null, false),
  (1029, .iconst 2, 650, 0, 0, .int 2, false),
  (1030, .iadd, 651, 0, 0, .null, false),
  (1031, .iaload, 652, 0, 0, .null, false),
  (1032, .invokevirtual 126, 653, 79, 3, .null, false),
  (1035, .aload_n 2, 654, 2, 0, .null, false),
  (1036, .aload_n 0, 655, 0, 0, .null, false),
  (1037, .iload_n 3, 656, 3, 0, .null, false),
  (1038, .iconst 1, 657, 0, 0, .int 1, false),
  (1039, .iadd, 658, 0, 0, .null, false),
  (1040, .iaload, 659, 0, 0, .null, false),
  (1041, .aload_n 0, 660, 0, 0, .null, false),
  (1042, .iload_n 3, 661, 3, 0, .null, false),
  (1043, .iconst 2, 662, 0, 0, .int 2, false),
  (1044, .iadd, 663, 0, 0, .null, false),
  (1045, .iaload, 664, 0, 0, .null, false),
  (1046, .invokevirtual 129, 665, 180, 3, .null, false),
  (1049, .if_icmp .eq 458, 666, 1001, 0, .null, false),
  (1052, .iconst 0, 667, 0, 0, .int 0, false),
  (1053, .ireturn, 0, 0, 0, .null, false),
  (1054, .aload_n 1, 669, 1, 0, .null, false),
  (1055, .aload_n 0, 670, 0, 0, .null, false),
  (1056, .iload_n 3, 671, 3, 0, .null, false),
  (1057, .iconst 1, 672, 0, 0, .int 1, false)]
def q_L_law_21 : List mm_N := [(1058, .iadd, 673, 0, 0, .null, false),
  (1059, .iaload, 674, 0, 0, .null, false),
  (1060, .aload_n 0, 675, 0, 0, .null, false),
  (1061, .iload_n 3, 676, 3, 0, .null, false),
  (1062, .iconst 2, 677, 0, 0, .int 2, false),
  (1063, .iadd, 678, 0, 0, .null, false),
  (1064, .iaload, 679, 0, 0, .null, false),
  (1065, .invokevirtual 130, 680, 80, 3, .null, false),
  (1068, .aload_n 2, 681, 2, 0, .null, false),
  (1069, .aload_n 0, 682, 0, 0, .null, false),
  (1070, .iload_n 3, 683, 3, 0, .null, false),
  (1071, .iconst 1, 684, 0, 0, .int 1, false),
  (1072, .iadd, 685, 0, 0, .null, false),
  (1073, .iaload, 686, 0, 0, .null, false),
  (1074, .aload_n 0, 687, 0, 0, .null, false),
  (1075, .iload_n 3, 688, 3, 0, .null, false),
  (1076, .iconst 2, 689, 0, 0, .int 2, false),
  (1077, .iadd, 690, 0, 0, .null, false),
  (1078, .iaload, 691, 0, 0, .null, false),
  (1079, .invokevirtual 133, 692, 181, 3, .null, false),
  (1082, .if_icmp .eq 425, 693, 1001, 0, .null, false),
  (1085, .iconst 0, 694, 0, 0, .int 0, false),
  (1086, .ireturn, 0, 0, 0, .null, false),
  (1087, .aload_n 1, 696, 1, 0, .null, false),
  (1088, .aload_n 0, 697, 0, 0, .null, false),
  (1089, .iload_n 3, 698, 3, 0, .null, false),
  (1090, .iconst 1, 699, 0, 0, .int 1, false),
  (1091, .iadd, 700, 0, 0, .null, false),
  (1092, .iaload, 701, 0, 0, .null, false),
  (1093, .invokevirtual 134, 702, 81, 2, .null, false),
  (1096, .aload_n 2, 703, 2, 0, .null, false),
  (1097, .aload_n 0, 704, 0, 0, .null, false)]
def q_L_law_22 : List mm_N := [(1098, .iload_n 3, 705, 3, 0, .null, false),
  (1099, .iconst 1, 706, 0, 0, .int 1, false),
  (1100, .iadd, 707, 0, 0, .null, false),
  (1101, .iaload, 708, 0, 0, .null, false),
  (1102, .invokevirtual 137, 709, 182, 2, .null, false),
  (1105, .if_icmp .eq 402, 710, 1001, 0, .null, false),
  (1108, .iconst 0, 711, 0, 0, .int 0, false),
  (1109, .ireturn, 0, 0, 0, .null, false),
  (1110, .aload_n 1, 713, 1, 0, .null, false),
  (1111, .aload_n 0, 714, 0, 0, .null, false),
  (1112, .iload_n 3, 715, 3, 0, .null, false),
  (1113, .iconst 1, 716, 0, 0, .int 1, false),
  (1114, .iadd, 717, 0, 0, .null, false),
  (1115, .iaload, 718, 0, 0, .null, false),
  (1116, .invokevirtual 138, 719, 82, 2, .null, false),
  (1119, .aload_n 2, 720, 2, 0, .null, false),
  (1120, .aload_n 0, 721, 0, 0, .null, false),
  (1121, .iload_n 3, 722, 3, 0, .null, false),
  (1122, .iconst 1, 723, 0, 0, .int 1, false),
  (1123, .iadd, 724, 0, 0, .null, false),
  (1124, .iaload, 725, 0, 0, .null, false),
  (1125, .invokevirtual 141, 726, 184, 2, .null, false),
  (1128, .if_icmp .eq 379, 727, 1001, 0, .null, false),
  (1131, .iconst 0, 728, 0, 0, .int 0, false),
  (1132, .ireturn, 0, 0, 0, .null, false),
  (1133, .aload_n 1, 730, 1, 0, .null, false),
  (1134, .invokevirtual 142, 731, 83, 1, .null, false),
  (1137, .aload_n 2, 732, 2, 0, .null, false),
  (1138, .invokevirtual 145, 733, 185, 1, .null, false),
  (1141, .if_icmp .eq 366, 734, 1001, 0, .null, false),
  (1144, .iconst 0, 735, 0, 0, .int 0, false),
  (1145, .ireturn, 0, 0, 0, .null, false)]
def q_L_law_23 : List mm_N := [(1146, .aload_n 1, 737, 1, 0, .null, false),
  (1147, .aload_n 0, 738, 0, 0, .null, false),
  (1148, .iload_n 3, 739, 3, 0, .null, false),
  (1149, .iconst 1, 740, 0, 0, .int 1, false),
  (1150, .iadd, 741, 0, 0, .null, false),
  (1151, .iaload, 742, 0, 0, .null, false),
  (1152, .aload_n 0, 743, 0, 0, .null, false),
  (1153, .iload_n 3, 744, 3, 0, .null, false),
  (1154, .iconst 2, 745, 0, 0, .int 2, false),
  (1155, .iadd, 746, 0, 0, .null, false),
  (1156, .iaload, 747, 0, 0, .null, false),
  (1157, .invokevirtual 146, 748, 84, 3, .null, false),
  (1160, .aload_n 2, 749, 2, 0, .null, false),
  (1161, .aload_n 0, 750, 0, 0, .null, false),
  (1162, .iload_n 3, 751, 3, 0, .null, false),
  (1163, .iconst 1, 752, 0, 0, .int 1, false),
  (1164, .iadd, 753, 0, 0, .null, false),
  (1165, .iaload, 754, 0, 0, .null, false),
  (1166, .aload_n 0, 755, 0, 0, .null, false),
  (1167, .iload_n 3, 756, 3, 0, .null, false),
  (1168, .iconst 2, 757, 0, 0, .int 2, false),
  (1169, .iadd, 758, 0, 0, .null, false),
  (1170, .iaload, 759, 0, 0, .null, false),
  (1171, .invokevirtual 149, 760, 187, 3, .null, false),
  (1174, .if_icmp .eq 333, 761, 1001, 0, .null, false),
  (1177, .iconst 0, 762, 0, 0, .int 0, false),
  (1178, .ireturn, 0, 0, 0, .null, false),
  (1179, .aload_n 1, 764, 1, 0, .null, false),
  (1180, .aload_n 0, 765, 0, 0, .null, false),
  (1181, .iload_n 3, 766, 3, 0, .null, false),
  (1182, .iconst 1, 767, 0, 0, .int 1, false),
  (1183, .iadd, 768, 0, 0, .null, false)]
def q_L_law_24 : List mm_N := [(1184, .iaload, 769, 0, 0, .null, false),
  (1185, .aload_n 0, 770, 0, 0, .null, false),
  (1186, .iload_n 3, 771, 3, 0, .null, false),
  (1187, .iconst 2, 772, 0, 0, .int 2, false),
  (1188, .iadd, 773, 0, 0, .null, false),
  (1189, .iaload, 774, 0, 0, .null, false),
  (1190, .invokevirtual 150, 775, 85, 3, .null, false),
  (1193, .aload_n 2, 776, 2, 0, .null, false),
  (1194, .aload_n 0, 777, 0, 0, .null, false),
  (1195, .iload_n 3, 778, 3, 0, .null, false),
  (1196, .iconst 1, 779, 0, 0, .int 1, false),
  (1197, .iadd, 780, 0, 0, .null, false),
  (1198, .iaload, 781, 0, 0, .null, false),
  (1199, .aload_n 0, 782, 0, 0, .null, false),
  (1200, .iload_n 3, 783, 3, 0, .null, false),
  (1201, .iconst 2, 784, 0, 0, .int 2, false),
  (1202, .iadd, 785, 0, 0, .null, false),
  (1203, .iaload, 786, 0, 0, .null, false),
  (1204, .invokevirtual 153, 787, 189, 3, .null, false),
  (1207, .if_icmp .eq 300, 788, 1001, 0, .null, false),
  (1210, .iconst 0, 789, 0, 0, .int 0, false),
  (1211, .ireturn, 0, 0, 0, .null, false),
  (1212, .aload_n 1, 791, 1, 0, .null, false),
  (1213, .aload_n 0, 792, 0, 0, .null, false),
  (1214, .iload_n 3, 793, 3, 0, .null, false),
  (1215, .iconst 1, 794, 0, 0, .int 1, false),
  (1216, .iadd, 795, 0, 0, .null, false),
  (1217, .iaload, 796, 0, 0, .null, false),
  (1218, .invokevirtual 154, 797, 86, 2, .null, false),
  (1221, .aload_n 2, 798, 2, 0, .null, false),
  (1222, .aload_n 0, 799, 0, 0, .null, false),
  (1223, .iload_n 3, 800, 3, 0, .null, false)]
def q_L_law_25 : List mm_N := [(1224, .iconst 1, 801, 0, 0, .int 1, false),
  (1225, .iadd, 802, 0, 0, .null, false),
  (1226, .iaload, 803, 0, 0, .null, false),
  (1227, .invokevirtual 157, 804, 190, 2, .null, false),
  (1230, .if_icmp .eq 277, 805, 1001, 0, .null, false),
  (1233, .iconst 0, 806, 0, 0, .int 0, false),
  (1234, .ireturn, 0, 0, 0, .null, false),
  (1235, .aload_n 1, 808, 1, 0, .null, false),
  (1236, .aload_n 0, 809, 0, 0, .null, false),
  (1237, .iload_n 3, 810, 3, 0, .null, false),
  (1238, .iconst 1, 811, 0, 0, .int 1, false),
  (1239, .iadd, 812, 0, 0, .null, false),
  (1240, .iaload, 813, 0, 0, .null, false),
  (1241, .invokevirtual 158, 814, 87, 2, .null, false),
  (1244, .aload_n 2, 815, 2, 0, .null, false),
  (1245, .aload_n 0, 816, 0, 0, .null, false),
  (1246, .iload_n 3, 817, 3, 0, .null, false),
  (1247, .iconst 1, 818, 0, 0, .int 1, false),
  (1248, .iadd, 819, 0, 0, .null, false),
  (1249, .iaload, 820, 0, 0, .null, false),
  (1250, .invokevirtual 161, 821, 191, 2, .null, false),
  (1253, .if_icmp .eq 254, 822, 1001, 0, .null, false),
  (1256, .iconst 0, 823, 0, 0, .int 0, false),
  (1257, .ireturn, 0, 0, 0, .null, false),
  (1258, .aload_n 1, 825, 1, 0, .null, false),
  (1259, .invokevirtual 162, 826, 88, 1, .null, false),
  (1262, .aload_n 2, 827, 2, 0, .null, false),
  (1263, .invokevirtual 165, 828, 193, 1, .null, false),
  (1266, .if_icmp .eq 241, 829, 1001, 0, .null, false),
  (1269, .iconst 0, 830, 0, 0, .int 0, false),
  (1270, .ireturn, 0, 0, 0, .null, false),
  (1271, .aload_n 1, 832, 1, 0, .null, false)]
def q_L_law_26 : List mm_N := [(1272, .aload_n 0, 833, 0, 0, .null, false),
  (1273, .iload_n 3, 834, 3, 0, .null, false),
  (1274, .iconst 1, 835, 0, 0, .int 1, false),
  (1275, .iadd, 836, 0, 0, .null, false),
  (1276, .iaload, 837, 0, 0, .null, false),
  (1277, .aload_n 0, 838, 0, 0, .null, false),
  (1278, .iload_n 3, 839, 3, 0, .null, false),
  (1279, .iconst 2, 840, 0, 0, .int 2, false),
  (1280, .iadd, 841, 0, 0, .null, false),
  (1281, .iaload, 842, 0, 0, .null, false),
  (1282, .invokevirtual 166, 843, 89, 3, .null, false),
  (1285, .aload_n 2, 844, 2, 0, .null, false),
  (1286, .aload_n 0, 845, 0, 0, .null, false),
  (1287, .iload_n 3, 846, 3, 0, .null, false),
  (1288, .iconst 1, 847, 0, 0, .int 1, false),
  (1289, .iadd, 848, 0, 0, .null, false),
  (1290, .iaload, 849, 0, 0, .null, false),
  (1291, .aload_n 0, 850, 0, 0, .null, false),
  (1292, .iload_n 3, 851, 3, 0, .null, false),
  (1293, .iconst 2, 852, 0, 0, .int 2, false),
  (1294, .iadd, 853, 0, 0, .null, false),
  (1295, .iaload, 854, 0, 0, .null, false),
  (1296, .invokevirtual 169, 855, 194, 3, .null, false),
  (1299, .if_icmp .eq 208, 856, 1001, 0, .null, false),
  (1302, .iconst 0, 857, 0, 0, .int 0, false),
  (1303, .ireturn, 0, 0, 0, .null, false),
  (1304, .aload_n 1, 859, 1, 0, .null, false),
  (1305, .aload_n 0, 860, 0, 0, .null, false),
  (1306, .iload_n 3, 861, 3, 0, .null, false),
  (1307, .iconst 1, 862, 0, 0, .int 1, false),
  (1308, .iadd, 863, 0, 0, .null, false),
  (1309, .iaload, 864, 0, 0, .null, false)]
def q_L_law_27 : List mm_N := [(1310, .invokevirtual 170, 865, 90, 2, .null, false),
  (1313, .aload_n 2, 866, 2, 0, .null, false),
  (1314, .aload_n 0, 867, 0, 0, .null, false),
  (1315, .iload_n 3, 868, 3, 0, .null, false),
  (1316, .iconst 1, 869, 0, 0, .int 1, false),
  (1317, .iadd, 870, 0, 0, .null, false),
  (1318, .iaload, 871, 0, 0, .null, false),
  (1319, .invokevirtual 173, 872, 195, 2, .null, false),
  (1322, .if_icmp .eq 185, 873, 1001, 0, .null, false),
  (1325, .iconst 0, 874, 0, 0, .int 0, false),
  (1326, .ireturn, 0, 0, 0, .null, false),
  (1327, .aload_n 1, 876, 1, 0, .null, false),
  (1328, .aload_n 0, 877, 0, 0, .null, false),
  (1329, .iload_n 3, 878, 3, 0, .null, false),
  (1330, .iconst 1, 879, 0, 0, .int 1, false),
  (1331, .iadd, 880, 0, 0, .null, false),
  (1332, .iaload, 881, 0, 0, .null, false),
  (1333, .aload_n 0, 882, 0, 0, .null, false),
  (1334, .iload_n 3, 883, 3, 0, .null, false),
  (1335, .iconst 2, 884, 0, 0, .int 2, false),
  (1336, .iadd, 885, 0, 0, .null, false),
  (1337, .iaload, 886, 0, 0, .null, false),
  (1338, .invokevirtual 174, 887, 91, 3, .null, false),
  (1341, .aload_n 2, 888, 2, 0, .null, false),
  (1342, .aload_n 0, 889, 0, 0, .null, false),
  (1343, .iload_n 3, 890, 3, 0, .null, false),
  (1344, .iconst 1, 891, 0, 0, .int 1, false),
  (1345, .iadd, 892, 0, 0, .null, false),
  (1346, .iaload, 893, 0, 0, .null, false),
  (1347, .aload_n 0, 894, 0, 0, .null, false),
  (1348, .iload_n 3, 895, 3, 0, .null, false),
  (1349, .iconst 2, 896, 0, 0, .int 2, false)]
def q_L_law_28 : List mm_N := [(1350, .iadd, 897, 0, 0, .null, false),
  (1351, .iaload, 898, 0, 0, .null, false),
  (1352, .invokevirtual 177, 899, 196, 3, .null, false),
  (1355, .if_icmp .eq 152, 900, 1001, 0, .null, false),
  (1358, .iconst 0, 901, 0, 0, .int 0, false),
  (1359, .ireturn, 0, 0, 0, .null, false),
  (1360, .aload_n 1, 903, 1, 0, .null, false),
  (1361, .aload_n 0, 904, 0, 0, .null, false),
  (1362, .iload_n 3, 905, 3, 0, .null, false),
  (1363, .iconst 1, 906, 0, 0, .int 1, false),
  (1364, .iadd, 907, 0, 0, .null, false),
  (1365, .iaload, 908, 0, 0, .null, false),
  (1366, .aload_n 0, 909, 0, 0, .null, false),
  (1367, .iload_n 3, 910, 3, 0, .null, false),
  (1368, .iconst 2, 911, 0, 0, .int 2, false),
  (1369, .iadd, 912, 0, 0, .null, false),
  (1370, .iaload, 913, 0, 0, .null, false),
  (1371, .invokevirtual 178, 914, 92, 3, .null, false),
  (1374, .aload_n 2, 915, 2, 0, .null, false),
  (1375, .aload_n 0, 916, 0, 0, .null, false),
  (1376, .iload_n 3, 917, 3, 0, .null, false),
  (1377, .iconst 1, 918, 0, 0, .int 1, false),
  (1378, .iadd, 919, 0, 0, .null, false),
  (1379, .iaload, 920, 0, 0, .null, false),
  (1380, .aload_n 0, 921, 0, 0, .null, false),
  (1381, .iload_n 3, 922, 3, 0, .null, false),
  (1382, .iconst 2, 923, 0, 0, .int 2, false),
  (1383, .iadd, 924, 0, 0, .null, false),
  (1384, .iaload, 925, 0, 0, .null, false),
  (1385, .invokevirtual 181, 926, 199, 3, .null, false),
  (1388, .if_icmp .eq 119, 927, 1001, 0, .null, false),
  (1391, .iconst 0, 928, 0, 0, .int 0, false)]
def q_L_law_29 : List mm_N := [(1392, .ireturn, 0, 0, 0, .null, false),
  (1393, .aload_n 1, 930, 1, 0, .null, false),
  (1394, .invokevirtual 182, 931, 93, 1, .null, false),
  (1397, .aload_n 2, 932, 2, 0, .null, false),
  (1398, .invokevirtual 185, 933, 200, 1, .null, false),
  (1401, .if_icmp .eq 106, 934, 1001, 0, .null, false),
  (1404, .iconst 0, 935, 0, 0, .int 0, false),
  (1405, .ireturn, 0, 0, 0, .null, false),
  (1406, .aload_n 1, 937, 1, 0, .null, false),
  (1407, .invokevirtual 186, 938, 94, 1, .null, false),
  (1410, .aload_n 2, 939, 2, 0, .null, false),
  (1411, .invokevirtual 190, 940, 201, 1, .null, false),
  (1414, .lcmp, 941, 0, 0, .null, false),
  (1415, .ifCond .eq 92, 942, 1001, 0, .null, false),
  (1418, .iconst 0, 943, 0, 0, .int 0, false),
  (1419, .ireturn, 0, 0, 0, .null, false),
  (1420, .aload_n 1, 945, 1, 0, .null, false),
  (1421, .invokevirtual 191, 946, 95, 1, .null, false),
  (1424, .aload_n 2, 947, 2, 0, .null, false),
  (1425, .invokevirtual 194, 948, 202, 1, .null, false),
  (1428, .lcmp, 949, 0, 0, .null, false),
  (1429, .ifCond .eq 78, 950, 1001, 0, .null, false),
  (1432, .iconst 0, 951, 0, 0, .int 0, false),
  (1433, .ireturn, 0, 0, 0, .null, false),
  (1434, .aload_n 1, 953, 1, 0, .null, false),
  (1435, .aload_n 0, 954, 0, 0, .null, false),
  (1436, .iload_n 3, 955, 3, 0, .null, false),
  (1437, .iconst 1, 956, 0, 0, .int 1, false),
  (1438, .iadd, 957, 0, 0, .null, false),
  (1439, .iaload, 958, 0, 0, .null, false),
  (1440, .invokevirtual 195, 959, 96, 2, .null, false),
  (1443, .aload_n 2, 960, 2, 0, .null, false)]
def q_L_law_30 : List mm_N := [(1444, .aload_n 0, 961, 0, 0, .null, false),
  (1445, .iload_n 3, 962, 3, 0, .null, false),
  (1446, .iconst 1, 963, 0, 0, .int 1, false),
  (1447, .iadd, 964, 0, 0, .null, false),
  (1448, .iaload, 965, 0, 0, .null, false),
  (1449, .invokevirtual 198, 966, 204, 2, .null, false),
  (1452, .if_icmp .eq 55, 967, 1001, 0, .null, false),
  (1455, .iconst 0, 968, 0, 0, .int 0, false),
  (1456, .ireturn, 0, 0, 0, .null, false),
  (1457, .aload_n 1, 970, 1, 0, .null, false),
  (1458, .invokevirtual 199, 971, 97, 1, .null, false),
  (1461, .aload_n 2, 972, 2, 0, .null, false),
  (1462, .invokevirtual 202, 973, 205, 1, .null, false),
  (1465, .if_icmp .eq 42, 974, 1001, 0, .null, false),
  (1468, .iconst 0, 975, 0, 0, .int 0, false),
  (1469, .ireturn, 0, 0, 0, .null, false),
  (1470, .aload_n 1, 977, 1, 0, .null, false),
  (1471, .aload_n 0, 978, 0, 0, .null, false),
  (1472, .iload_n 3, 979, 3, 0, .null, false),
  (1473, .iconst 1, 980, 0, 0, .int 1, false),
  (1474, .iadd, 981, 0, 0, .null, false),
  (1475, .iaload, 982, 0, 0, .null, false),
  (1476, .invokevirtual 203, 983, 98, 2, .null, false),
  (1479, .aload_n 2, 984, 2, 0, .null, false),
  (1480, .aload_n 0, 985, 0, 0, .null, false),
  (1481, .iload_n 3, 986, 3, 0, .null, false),
  (1482, .iconst 1, 987, 0, 0, .int 1, false),
  (1483, .iadd, 988, 0, 0, .null, false),
  (1484, .iaload, 989, 0, 0, .null, false),
  (1485, .invokevirtual 206, 990, 206, 2, .null, false),
  (1488, .if_icmp .eq 19, 991, 1001, 0, .null, false),
  (1491, .iconst 0, 992, 0, 0, .int 0, false)]
def q_L_law_31 : List mm_N := [(1492, .ireturn, 0, 0, 0, .null, false),
  (1493, .aload_n 1, 994, 1, 0, .null, false),
  (1494, .invokevirtual 207, 995, 99, 1, .null, false),
  (1497, .aload_n 2, 996, 2, 0, .null, false),
  (1498, .invokevirtual 210, 997, 207, 1, .null, false),
  (1501, .lcmp, 998, 0, 0, .null, false),
  (1502, .ifCond .eq 5, 999, 1001, 0, .null, false),
  (1505, .iconst 0, 1000, 0, 0, .int 0, false),
  (1506, .ireturn, 0, 0, 0, .null, false),
  (1507, .iinc 3 6, 1002, 3, 0, .int 6, true),
  (1510, .goto (-1492), 0, 10, 0, .null, false),
  (1513, .iconst 1, 1004, 0, 0, .int 1, false),
  (1514, .ireturn, 0, 0, 0, .null, false)]
def q_L_law : List (List mm_N) := [q_L_law_0, q_L_law_1, q_L_law_2, q_L_law_3, q_L_law_4, q_L_law_5, q_L_law_6, q_L_law_7, q_L_law_8, q_L_law_9, q_L_law_10, q_L_law_11, q_L_law_12, q_L_law_13, q_L_law_14, q_L_law_15, q_L_law_16, q_L_law_17, q_L_law_18, q_L_law_19, q_L_law_20, q_L_law_21, q_L_law_22, q_L_law_23, q_L_law_24, q_L_law_25, q_L_law_26, q_L_law_27, q_L_law_28, q_L_law_29, q_L_law_30, q_L_law_31]
def mm_code (n : Nat) : List (List mm_N) := (bif Nat.blt n 105 then (bif Nat.blt n 52 then (bif Nat.blt n 26 then (bif Nat.blt n 13 then (bif Nat.blt n 6 then (bif Nat.blt n 3 then (bif Nat.blt n 1 then q_X0_init else (bif Nat.blt n 2 then q_X0_seat else q_X0_forgetCitation)) else (bif Nat.blt n 4 then q_X0_isMovedByOneMore else (bif Nat.blt n 5 then q_X0_isToStand else q_X0_clash))) else (bif Nat.blt n 9 then (bif Nat.blt n 7 then q_X0_mattersTo else (bif Nat.blt n 8 then q_X1_init else q_X1_has)) else (bif Nat.blt n 11 then (bif Nat.blt n 10 then q_X1_everyRuling else q_X1_canBeCited) else (bif Nat.blt n 12 then q_X1_citable else q_X1_add)))) else (bif Nat.blt n 19 then (bif Nat.blt n 16 then (bif Nat.blt n 14 then q_X1_cutTo else (bif Nat.blt n 15 then q_X1_become else q_X1_detail)) else (bif Nat.blt n 17 then q_X1_citations else (bif Nat.blt n 18 then q_X1_dependsOn else q_X1_ofDay))) else (bif Nat.blt n 22 then (bif Nat.blt n 20 then q_X1_othersOfItsDay else (bif Nat.blt n 21 then q_X1_laterThan else q_X1_countOf)) else (bif Nat.blt n 24 then (bif Nat.blt n 23 then q_X1_likeness else q_X1_decide) else (bif Nat.blt n 25 then q_X1_verdictsBy else q_X1_agrees))))) else (bif Nat.blt n 39 then (bif Nat.blt n 32 then (bif Nat.blt n 29 then (bif Nat.blt n 27 then q_X2_init else (bif Nat.blt n 28 then q_X2_read else q_X2_skipBlanks)) else (bif Nat.blt n 30 then q_X2_readItem else (bif Nat.blt n 31 then q_X2_sign else q_X2_letter))) else (bif Nat.blt n 35 then (bif Nat.blt n 33 then q_X2_figure else (bif Nat.blt n 34 then q_X2_readMarks else q_X3_init)) else (bif Nat.blt n 37 then (bif Nat.blt n 36 then q_X3_isMissing else q_X3_has) else (bif Nat.blt n 38 then q_X3_hasRun else q_X3_value)))) else (bif Nat.blt n 45 then (bif Nat.blt n 42 then (bif Nat.blt n 40 then q_X3_swap else (bif Nat.blt n 41 then q_X3_renew else q_X3_remove)) else (bif Nat.blt n 43 then q_X3_sum else (bif Nat.blt n 44 then q_X3_digestFrom else q_X4_init))) else (bif Nat.blt n 48 then (bif Nat.blt n 46 then q_X4_find else (bif Nat.blt n 47 then q_X4_first else q_X4_surelyStanding)) else (bif Nat.blt n 50 then (bif Nat.blt n 49 then q_X4_surelyFalling else q_X4_waysWith) else (bif Nat.blt n 51 then q_X4_meets else q_X5_init)))))) else (bif Nat.blt n 78 then (bif Nat.blt n 65 then (bif Nat.blt n 58 then (bif Nat.blt n 55 then (bif Nat.blt n 53 then q_X5_row else (bif Nat.blt n 54 then q_X5_lay else q_X5_at)) else (bif Nat.blt n 56 then q_X5_tear else (bif Nat.blt n 57 then q_X5_copy else q_X5_mean))) else (bif Nat.blt n 61 then (bif Nat.blt n 59 then q_X5_text else (bif Nat.blt n 60 then q_X5_put else q_X5_fault)) else (bif Nat.blt n 63 then (bif Nat.blt n 62 then q_X5_court else q_X5_ruling) else (bif Nat.blt n 64 then q_X5_mark else q_X5_reverse)))) else (bif Nat.blt n 71 then (bif Nat.blt n 68 then (bif Nat.blt n 66 then q_X5_marks else (bif Nat.blt n 67 then q_X5_file else q_X5_strike)) else (bif Nat.blt n 69 then q_X5_keep else (bif Nat.blt n 70 then q_X5_on else q_X5_due))) else (bif Nat.blt n 74 then (bif Nat.blt n 72 then q_X5_ways else (bif Nat.blt n 73 then q_X5_nth else q_X5_sure)) else (bif Nat.blt n 76 then (bif Nat.blt n 75 then q_X5_odds else q_X5_together) else (bif Nat.blt n 77 then q_X5_till else q_X5_flips))))) else (bif Nat.blt n 91 then (bif Nat.blt n 84 then (bif Nat.blt n 81 then (bif Nat.blt n 79 then q_X5_jam else (bif Nat.blt n 80 then q_X5_fell else q_X5_guard)) else (bif Nat.blt n 82 then q_X5_settle else (bif Nat.blt n 83 then q_X5_matter else q_X5_judge))) else (bif Nat.blt n 87 then (bif Nat.blt n 85 then q_X5_like else (bif Nat.blt n 86 then q_X5_verdict else q_X5_surely)) else (bif Nat.blt n 89 then (bif Nat.blt n 88 then q_X5_freed else q_X5_code) else (bif Nat.blt n 90 then q_X5_kinds else q_X5_forged)))) else (bif Nat.blt n 98 then (bif Nat.blt n 94 then (bif Nat.blt n 92 then q_X5_torn else (bif Nat.blt n 93 then q_X5_lots else q_X5_asked)) else (bif Nat.blt n 96 then (bif Nat.blt n 95 then q_X5_upper else q_X5_lower) else (bif Nat.blt n 97 then q_X5_count else q_X5_finding))) else (bif Nat.blt n 101 then (bif Nat.blt n 99 then q_X5_findings else (bif Nat.blt n 100 then q_X5_digest else q_X5_within)) else (bif Nat.blt n 103 then (bif Nat.blt n 102 then q_X5_holds else q_X5_isOfKind) else (bif Nat.blt n 104 then q_X5_greatestDivisor else q_X5_refuse))))))) else (bif Nat.blt n 157 then (bif Nat.blt n 131 then (bif Nat.blt n 118 then (bif Nat.blt n 111 then (bif Nat.blt n 108 then (bif Nat.blt n 106 then q_X5_tell else (bif Nat.blt n 107 then q_X5_renewed else q_X5_refusalOfPlace)) else (bif Nat.blt n 109 then q_X5_isKept else (bif Nat.blt n 110 then q_X5_findWays else q_X5_fewest))) else (bif Nat.blt n 114 then (bif Nat.blt n 112 then q_X5_canReach else (bif Nat.blt n 113 then q_X5_changedWithout else q_X5_fileByLot)) else (bif Nat.blt n 116 then (bif Nat.blt n 115 then q_X5_countOf else q_X5_there) else (bif Nat.blt n 117 then q_X6_init else q_X6_in)))) else (bif Nat.blt n 124 then (bif Nat.blt n 121 then (bif Nat.blt n 119 then q_X6_has else (bif Nat.blt n 120 then q_X6_ones else q_X6_finds)) else (bif Nat.blt n 122 then q_X6_tells else (bif Nat.blt n 123 then q_X6_isRow else q_X6_isText))) else (bif Nat.blt n 127 then (bif Nat.blt n 125 then q_X6_row else (bif Nat.blt n 126 then q_X6_lay else q_X6_at)) else (bif Nat.blt n 129 then (bif Nat.blt n 128 then q_X6_tear else q_X6_isPart) else (bif Nat.blt n 130 then q_X6_copy else q_X6_mean))))) else (bif Nat.blt n 144 then (bif Nat.blt n 137 then (bif Nat.blt n 134 then (bif Nat.blt n 132 then q_X6_text else (bif Nat.blt n 133 then q_X6_put else q_X6_byteAt)) else (bif Nat.blt n 135 then q_X6_kindOf else (bif Nat.blt n 136 then q_X6_figure else q_X6_faults))) else (bif Nat.blt n 140 then (bif Nat.blt n 138 then q_X6_readsCitation else (bif Nat.blt n 139 then q_X6_readsItem else q_X6_reads)) else (bif Nat.blt n 142 then (bif Nat.blt n 141 then q_X6_fault else q_X6_adds) else (bif Nat.blt n 143 then q_X6_court else q_X6_isRuling)))) else (bif Nat.blt n 150 then (bif Nat.blt n 147 then (bif Nat.blt n 145 then q_X6_isSet else (bif Nat.blt n 146 then q_X6_citing else q_X6_told)) else (bif Nat.blt n 148 then q_X6_ruling else (bif Nat.blt n 149 then q_X6_isOf else q_X6_depends))) else (bif Nat.blt n 153 then (bif Nat.blt n 151 then q_X6_ofItsDay else (bif Nat.blt n 152 then q_X6_mark else q_X6_reverse)) else (bif Nat.blt n 155 then (bif Nat.blt n 154 then q_X6_marks else q_X6_file) else (bif Nat.blt n 156 then q_X6_strike else q_X6_keep)))))) else (bif Nat.blt n 183 then (bif Nat.blt n 170 then (bif Nat.blt n 163 then (bif Nat.blt n 160 then (bif Nat.blt n 158 then q_X6_on else (bif Nat.blt n 159 then q_X6_all else q_X6_isDue)) else (bif Nat.blt n 161 then q_X6_dueBy else (bif Nat.blt n 162 then q_X6_isWay else q_X6_due))) else (bif Nat.blt n 166 then (bif Nat.blt n 164 then q_X6_wayMany else (bif Nat.blt n 165 then q_X6_firstWay else q_X6_standsIn)) else (bif Nat.blt n 168 then (bif Nat.blt n 167 then q_X6_ways else q_X6_nth) else (bif Nat.blt n 169 then q_X6_findsSure else q_X6_sure)))) else (bif Nat.blt n 176 then (bif Nat.blt n 173 then (bif Nat.blt n 171 then q_X6_odds else (bif Nat.blt n 172 then q_X6_together else q_X6_upTo)) else (bif Nat.blt n 174 then q_X6_till else (bif Nat.blt n 175 then q_X6_flips else q_X6_jam))) else (bif Nat.blt n 179 then (bif Nat.blt n 177 then q_X6_isReached else (bif Nat.blt n 178 then q_X6_power else q_X6_strikes)) else (bif Nat.blt n 181 then (bif Nat.blt n 180 then q_X6_files else q_X6_fell) else (bif Nat.blt n 182 then q_X6_guard else q_X6_settle))))) else (bif Nat.blt n 196 then (bif Nat.blt n 189 then (bif Nat.blt n 186 then (bif Nat.blt n 184 then q_X6_otherwise else (bif Nat.blt n 185 then q_X6_matter else q_X6_judge)) else (bif Nat.blt n 187 then q_X6_likeness else (bif Nat.blt n 188 then q_X6_like else q_X6_verdictBy))) else (bif Nat.blt n 192 then (bif Nat.blt n 190 then q_X6_verdict else (bif Nat.blt n 191 then q_X6_surely else q_X6_freed)) else (bif Nat.blt n 194 then (bif Nat.blt n 193 then q_X6_agrees else q_X6_code) else (bif Nat.blt n 195 then q_X6_kinds else q_X6_forged)))) else (bif Nat.blt n 203 then (bif Nat.blt n 199 then (bif Nat.blt n 197 then q_X6_torn else (bif Nat.blt n 198 then q_X6_ahead else q_X6_nthAhead)) else (bif Nat.blt n 201 then (bif Nat.blt n 200 then q_X6_lots else q_X6_asked) else (bif Nat.blt n 202 then q_X6_upper else q_X6_lower))) else (bif Nat.blt n 206 then (bif Nat.blt n 204 then q_X6_counted else (bif Nat.blt n 205 then q_X6_count else q_X6_finding)) else (bif Nat.blt n 208 then (bif Nat.blt n 207 then q_X6_findings else q_X6_digest) else (bif Nat.blt n 209 then q_J6_bitCount_0f7a4 else q_L_law))))))))
def mm_ml (n : Nat) : Nat := (bif Nat.blt n 105 then (bif Nat.blt n 52 then (bif Nat.blt n 26 then (bif Nat.blt n 13 then (bif Nat.blt n 6 then (bif Nat.blt n 3 then (bif Nat.blt n 1 then 1 else (bif Nat.blt n 2 then 4 else 3)) else (bif Nat.blt n 4 then 2 else (bif Nat.blt n 5 then 4 else 4))) else (bif Nat.blt n 9 then (bif Nat.blt n 7 then 3 else (bif Nat.blt n 8 then 1 else 2)) else (bif Nat.blt n 11 then (bif Nat.blt n 10 then 1 else 3) else (bif Nat.blt n 12 then 5 else 7)))) else (bif Nat.blt n 19 then (bif Nat.blt n 16 then (bif Nat.blt n 14 then 2 else (bif Nat.blt n 15 then 3 else 3)) else (bif Nat.blt n 17 then 5 else (bif Nat.blt n 18 then 4 else 4))) else (bif Nat.blt n 22 then (bif Nat.blt n 20 then 2 else (bif Nat.blt n 21 then 4 else 5)) else (bif Nat.blt n 24 then (bif Nat.blt n 23 then 6 else 9) else (bif Nat.blt n 25 then 4 else 4))))) else (bif Nat.blt n 39 then (bif Nat.blt n 32 then (bif Nat.blt n 29 then (bif Nat.blt n 27 then 1 else (bif Nat.blt n 28 then 3 else 1)) else (bif Nat.blt n 30 then 6 else (bif Nat.blt n 31 then 1 else 2))) else (bif Nat.blt n 35 then (bif Nat.blt n 33 then 2 else (bif Nat.blt n 34 then 3 else 2)) else (bif Nat.blt n 37 then (bif Nat.blt n 36 then 1 else 2) else (bif Nat.blt n 38 then 3 else 2)))) else (bif Nat.blt n 45 then (bif Nat.blt n 42 then (bif Nat.blt n 40 then 4 else (bif Nat.blt n 41 then 4 else 1)) else (bif Nat.blt n 43 then 4 else (bif Nat.blt n 44 then 6 else 1))) else (bif Nat.blt n 48 then (bif Nat.blt n 46 then 4 else (bif Nat.blt n 47 then 1 else 1)) else (bif Nat.blt n 50 then (bif Nat.blt n 49 then 1 else 4) else (bif Nat.blt n 51 then 3 else 2)))))) else (bif Nat.blt n 78 then (bif Nat.blt n 65 then (bif Nat.blt n 58 then (bif Nat.blt n 55 then (bif Nat.blt n 53 then 3 else (bif Nat.blt n 54 then 5 else 4)) else (bif Nat.blt n 56 then 2 else (bif Nat.blt n 57 then 6 else 3))) else (bif Nat.blt n 61 then (bif Nat.blt n 59 then 3 else (bif Nat.blt n 60 then 5 else 2)) else (bif Nat.blt n 63 then (bif Nat.blt n 62 then 3 else 3) else (bif Nat.blt n 64 then 3 else 4)))) else (bif Nat.blt n 71 then (bif Nat.blt n 68 then (bif Nat.blt n 66 then 4 else (bif Nat.blt n 67 then 8 else 3)) else (bif Nat.blt n 69 then 2 else (bif Nat.blt n 70 then 2 else 4))) else (bif Nat.blt n 74 then (bif Nat.blt n 72 then 1 else (bif Nat.blt n 73 then 2 else 1)) else (bif Nat.blt n 76 then (bif Nat.blt n 75 then 4 else 5) else (bif Nat.blt n 77 then 2 else 6))))) else (bif Nat.blt n 91 then (bif Nat.blt n 84 then (bif Nat.blt n 81 then (bif Nat.blt n 79 then 2 else (bif Nat.blt n 80 then 3 else 3)) else (bif Nat.blt n 82 then 2 else (bif Nat.blt n 83 then 2 else 6))) else (bif Nat.blt n 87 then (bif Nat.blt n 85 then 3 else (bif Nat.blt n 86 then 3 else 4)) else (bif Nat.blt n 89 then (bif Nat.blt n 88 then 6 else 7) else (bif Nat.blt n 90 then 5 else 4)))) else (bif Nat.blt n 98 then (bif Nat.blt n 94 then (bif Nat.blt n 92 then 6 else (bif Nat.blt n 93 then 5 else 1)) else (bif Nat.blt n 96 then (bif Nat.blt n 95 then 1 else 1) else (bif Nat.blt n 97 then 2 else 1))) else (bif Nat.blt n 101 then (bif Nat.blt n 99 then 2 else (bif Nat.blt n 100 then 5 else 2)) else (bif Nat.blt n 103 then (bif Nat.blt n 102 then 2 else 2) else (bif Nat.blt n 104 then 3 else 2))))))) else (bif Nat.blt n 157 then (bif Nat.blt n 131 then (bif Nat.blt n 118 then (bif Nat.blt n 111 then (bif Nat.blt n 108 then (bif Nat.blt n 106 then 2 else (bif Nat.blt n 107 then 5 else 3)) else (bif Nat.blt n 109 then 2 else (bif Nat.blt n 110 then 2 else 6))) else (bif Nat.blt n 114 then (bif Nat.blt n 112 then 7 else (bif Nat.blt n 113 then 5 else 6)) else (bif Nat.blt n 116 then (bif Nat.blt n 115 then 4 else 3) else (bif Nat.blt n 117 then 2 else 3)))) else (bif Nat.blt n 124 then (bif Nat.blt n 121 then (bif Nat.blt n 119 then 2 else (bif Nat.blt n 120 then 3 else 2)) else (bif Nat.blt n 122 then 2 else (bif Nat.blt n 123 then 1 else 1))) else (bif Nat.blt n 127 then (bif Nat.blt n 125 then 4 else (bif Nat.blt n 126 then 5 else 3)) else (bif Nat.blt n 129 then (bif Nat.blt n 128 then 2 else 4) else (bif Nat.blt n 130 then 7 else 5))))) else (bif Nat.blt n 144 then (bif Nat.blt n 137 then (bif Nat.blt n 134 then (bif Nat.blt n 132 then 4 else (bif Nat.blt n 133 then 5 else 3)) else (bif Nat.blt n 135 then 1 else (bif Nat.blt n 136 then 5 else 2))) else (bif Nat.blt n 140 then (bif Nat.blt n 138 then 6 else (bif Nat.blt n 139 then 6 else 5)) else (bif Nat.blt n 142 then (bif Nat.blt n 141 then 2 else 7) else (bif Nat.blt n 143 then 3 else 2)))) else (bif Nat.blt n 150 then (bif Nat.blt n 147 then (bif Nat.blt n 145 then 2 else (bif Nat.blt n 146 then 5 else 3)) else (bif Nat.blt n 148 then 3 else (bif Nat.blt n 149 then 2 else 4))) else (bif Nat.blt n 153 then (bif Nat.blt n 151 then 4 else (bif Nat.blt n 152 then 3 else 4)) else (bif Nat.blt n 155 then (bif Nat.blt n 154 then 4 else 8) else (bif Nat.blt n 156 then 5 else 4)))))) else (bif Nat.blt n 183 then (bif Nat.blt n 170 then (bif Nat.blt n 163 then (bif Nat.blt n 160 then (bif Nat.blt n 158 then 4 else (bif Nat.blt n 159 then 2 else 12)) else (bif Nat.blt n 161 then 4 else (bif Nat.blt n 162 then 2 else 2))) else (bif Nat.blt n 166 then (bif Nat.blt n 164 then 3 else (bif Nat.blt n 165 then 2 else 4)) else (bif Nat.blt n 168 then (bif Nat.blt n 167 then 1 else 4) else (bif Nat.blt n 169 then 3 else 1)))) else (bif Nat.blt n 176 then (bif Nat.blt n 173 then (bif Nat.blt n 171 then 7 else (bif Nat.blt n 172 then 5 else 3)) else (bif Nat.blt n 174 then 2 else (bif Nat.blt n 175 then 6 else 2))) else (bif Nat.blt n 179 then (bif Nat.blt n 177 then 3 else (bif Nat.blt n 178 then 4 else 8)) else (bif Nat.blt n 181 then (bif Nat.blt n 180 then 8 else 3) else (bif Nat.blt n 182 then 3 else 2))))) else (bif Nat.blt n 196 then (bif Nat.blt n 189 then (bif Nat.blt n 186 then (bif Nat.blt n 184 then 4 else (bif Nat.blt n 185 then 2 else 6)) else (bif Nat.blt n 187 then 2 else (bif Nat.blt n 188 then 3 else 9))) else (bif Nat.blt n 192 then (bif Nat.blt n 190 then 3 else (bif Nat.blt n 191 then 5 else 5)) else (bif Nat.blt n 194 then (bif Nat.blt n 193 then 5 else 5) else (bif Nat.blt n 195 then 6 else 6)))) else (bif Nat.blt n 203 then (bif Nat.blt n 199 then (bif Nat.blt n 197 then 7 else (bif Nat.blt n 198 then 4 else 5)) else (bif Nat.blt n 201 then (bif Nat.blt n 200 then 10 else 1) else (bif Nat.blt n 202 then 1 else 1))) else (bif Nat.blt n 206 then (bif Nat.blt n 204 then 5 else (bif Nat.blt n 205 then 2 else 1)) else (bif Nat.blt n 208 then (bif Nat.blt n 207 then 2 else 5) else (bif Nat.blt n 209 then 1 else 4))))))))
def mm_rt (n : Nat) : Option FieldType := (bif Nat.blt n 105 then (bif Nat.blt n 52 then (bif Nat.blt n 26 then (bif Nat.blt n 13 then (bif Nat.blt n 6 then (bif Nat.blt n 3 then (bif Nat.blt n 1 then none else (bif Nat.blt n 2 then none else none)) else (bif Nat.blt n 4 then (some .boolean) else (bif Nat.blt n 5 then (some .boolean) else (some .int)))) else (bif Nat.blt n 9 then (bif Nat.blt n 7 then (some .int) else (bif Nat.blt n 8 then none else (some .boolean))) else (bif Nat.blt n 11 then (bif Nat.blt n 10 then (some .int) else (some .boolean)) else (bif Nat.blt n 12 then (some .int) else none)))) else (bif Nat.blt n 19 then (bif Nat.blt n 16 then (bif Nat.blt n 14 then none else (bif Nat.blt n 15 then none else (some .int))) else (bif Nat.blt n 17 then (some .int) else (bif Nat.blt n 18 then (some .int) else (some .int)))) else (bif Nat.blt n 22 then (bif Nat.blt n 20 then (some .int) else (bif Nat.blt n 21 then (some .int) else (some .int))) else (bif Nat.blt n 24 then (bif Nat.blt n 23 then (some .int) else (some .int)) else (bif Nat.blt n 25 then (some .int) else (some .boolean)))))) else (bif Nat.blt n 39 then (bif Nat.blt n 32 then (bif Nat.blt n 29 then (bif Nat.blt n 27 then none else (bif Nat.blt n 28 then (some .int) else none)) else (bif Nat.blt n 30 then (some .boolean) else (bif Nat.blt n 31 then (some .int) else (some .int)))) else (bif Nat.blt n 35 then (bif Nat.blt n 33 then (some .int) else (bif Nat.blt n 34 then (some .int) else none)) else (bif Nat.blt n 37 then (bif Nat.blt n 36 then (some .boolean) else (some .boolean)) else (bif Nat.blt n 38 then (some .boolean) else (some .int))))) else (bif Nat.blt n 45 then (bif Nat.blt n 42 then (bif Nat.blt n 40 then (some .int) else (bif Nat.blt n 41 then none else none)) else (bif Nat.blt n 43 then (some .long) else (bif Nat.blt n 44 then (some .long) else none))) else (bif Nat.blt n 48 then (bif Nat.blt n 46 then none else (bif Nat.blt n 47 then (some .int) else (some .int))) else (bif Nat.blt n 50 then (bif Nat.blt n 49 then (some .int) else (some .int)) else (bif Nat.blt n 51 then (some .boolean) else none)))))) else (bif Nat.blt n 78 then (bif Nat.blt n 65 then (bif Nat.blt n 58 then (bif Nat.blt n 55 then (bif Nat.blt n 53 then (some .int) else (bif Nat.blt n 54 then (some .int) else (some .int))) else (bif Nat.blt n 56 then (some .int) else (bif Nat.blt n 57 then (some .int) else (some .int)))) else (bif Nat.blt n 61 then (bif Nat.blt n 59 then (some .int) else (bif Nat.blt n 60 then (some .int) else (some .int))) else (bif Nat.blt n 63 then (bif Nat.blt n 62 then (some .int) else (some .int)) else (bif Nat.blt n 64 then (some .int) else (some .int))))) else (bif Nat.blt n 71 then (bif Nat.blt n 68 then (bif Nat.blt n 66 then (some .int) else (bif Nat.blt n 67 then (some .int) else (some .int))) else (bif Nat.blt n 69 then (some .int) else (bif Nat.blt n 70 then (some .int) else (some .int)))) else (bif Nat.blt n 74 then (bif Nat.blt n 72 then (some .int) else (bif Nat.blt n 73 then (some .int) else (some .int))) else (bif Nat.blt n 76 then (bif Nat.blt n 75 then (some .int) else (some .int)) else (bif Nat.blt n 77 then (some .int) else (some .int)))))) else (bif Nat.blt n 91 then (bif Nat.blt n 84 then (bif Nat.blt n 81 then (bif Nat.blt n 79 then (some .int) else (bif Nat.blt n 80 then (some .int) else (some .int))) else (bif Nat.blt n 82 then (some .int) else (bif Nat.blt n 83 then (some .int) else (some .int)))) else (bif Nat.blt n 87 then (bif Nat.blt n 85 then (some .int) else (bif Nat.blt n 86 then (some .int) else (some .int))) else (bif Nat.blt n 89 then (bif Nat.blt n 88 then (some .int) else (some .int)) else (bif Nat.blt n 90 then (some .int) else (some .int))))) else (bif Nat.blt n 98 then (bif Nat.blt n 94 then (bif Nat.blt n 92 then (some .int) else (bif Nat.blt n 93 then (some .int) else (some .int))) else (bif Nat.blt n 96 then (bif Nat.blt n 95 then (some .long) else (some .long)) else (bif Nat.blt n 97 then (some .int) else (some .int)))) else (bif Nat.blt n 101 then (bif Nat.blt n 99 then (some .int) else (bif Nat.blt n 100 then (some .long) else (some .boolean))) else (bif Nat.blt n 103 then (bif Nat.blt n 102 then (some .boolean) else (some .boolean)) else (bif Nat.blt n 104 then (some .int) else (some .int)))))))) else (bif Nat.blt n 157 then (bif Nat.blt n 131 then (bif Nat.blt n 118 then (bif Nat.blt n 111 then (bif Nat.blt n 108 then (bif Nat.blt n 106 then (some .int) else (bif Nat.blt n 107 then (some .int) else (some .int))) else (bif Nat.blt n 109 then (some .boolean) else (bif Nat.blt n 110 then none else (some .int)))) else (bif Nat.blt n 114 then (bif Nat.blt n 112 then (some .boolean) else (bif Nat.blt n 113 then (some .int) else none)) else (bif Nat.blt n 116 then (bif Nat.blt n 115 then (some .int) else (some .int)) else (bif Nat.blt n 117 then none else (some .boolean))))) else (bif Nat.blt n 124 then (bif Nat.blt n 121 then (bif Nat.blt n 119 then (some .boolean) else (bif Nat.blt n 120 then (some .int) else (some .int))) else (bif Nat.blt n 122 then (some .int) else (bif Nat.blt n 123 then (some .boolean) else (some .boolean)))) else (bif Nat.blt n 127 then (bif Nat.blt n 125 then (some .int) else (bif Nat.blt n 126 then (some .int) else (some .int))) else (bif Nat.blt n 129 then (bif Nat.blt n 128 then (some .int) else (some .boolean)) else (bif Nat.blt n 130 then (some .int) else (some .int)))))) else (bif Nat.blt n 144 then (bif Nat.blt n 137 then (bif Nat.blt n 134 then (bif Nat.blt n 132 then (some .int) else (bif Nat.blt n 133 then (some .int) else (some .int))) else (bif Nat.blt n 135 then (some .int) else (bif Nat.blt n 136 then (some .int) else none))) else (bif Nat.blt n 140 then (bif Nat.blt n 138 then none else (bif Nat.blt n 139 then none else (some .int))) else (bif Nat.blt n 142 then (bif Nat.blt n 141 then (some .int) else none) else (bif Nat.blt n 143 then (some .int) else (some .boolean))))) else (bif Nat.blt n 150 then (bif Nat.blt n 147 then (bif Nat.blt n 145 then (some .boolean) else (bif Nat.blt n 146 then (some .int) else (some .int))) else (bif Nat.blt n 148 then (some .int) else (bif Nat.blt n 149 then (some .boolean) else (some .int)))) else (bif Nat.blt n 153 then (bif Nat.blt n 151 then (some .int) else (bif Nat.blt n 152 then (some .int) else (some .int))) else (bif Nat.blt n 155 then (bif Nat.blt n 154 then (some .int) else (some .int)) else (bif Nat.blt n 156 then (some .int) else (some .int))))))) else (bif Nat.blt n 183 then (bif Nat.blt n 170 then (bif Nat.blt n 163 then (bif Nat.blt n 160 then (bif Nat.blt n 158 then (some .int) else (bif Nat.blt n 159 then none else (some .boolean))) else (bif Nat.blt n 161 then (some .int) else (bif Nat.blt n 162 then (some .boolean) else (some .int)))) else (bif Nat.blt n 166 then (bif Nat.blt n 164 then (some .int) else (bif Nat.blt n 165 then (some .int) else (some .int))) else (bif Nat.blt n 168 then (bif Nat.blt n 167 then (some .int) else (some .int)) else (bif Nat.blt n 169 then none else (some .int))))) else (bif Nat.blt n 176 then (bif Nat.blt n 173 then (bif Nat.blt n 171 then (some .int) else (bif Nat.blt n 172 then (some .int) else none)) else (bif Nat.blt n 174 then (some .int) else (bif Nat.blt n 175 then (some .int) else (some .int)))) else (bif Nat.blt n 179 then (bif Nat.blt n 177 then (some .boolean) else (bif Nat.blt n 178 then (some .int) else (some .boolean))) else (bif Nat.blt n 181 then (bif Nat.blt n 180 then (some .int) else (some .int)) else (bif Nat.blt n 182 then (some .int) else (some .int)))))) else (bif Nat.blt n 196 then (bif Nat.blt n 189 then (bif Nat.blt n 186 then (bif Nat.blt n 184 then (some .int) else (bif Nat.blt n 185 then (some .int) else (some .int))) else (bif Nat.blt n 187 then (some .int) else (bif Nat.blt n 188 then (some .int) else (some .int)))) else (bif Nat.blt n 192 then (bif Nat.blt n 190 then (some .int) else (bif Nat.blt n 191 then (some .int) else (some .int))) else (bif Nat.blt n 194 then (bif Nat.blt n 193 then (some .boolean) else (some .int)) else (bif Nat.blt n 195 then (some .int) else (some .int))))) else (bif Nat.blt n 203 then (bif Nat.blt n 199 then (bif Nat.blt n 197 then (some .int) else (bif Nat.blt n 198 then (some .int) else (some .int))) else (bif Nat.blt n 201 then (bif Nat.blt n 200 then (some .int) else (some .int)) else (bif Nat.blt n 202 then (some .long) else (some .long)))) else (bif Nat.blt n 206 then (bif Nat.blt n 204 then (some .int) else (bif Nat.blt n 205 then (some .int) else (some .int))) else (bif Nat.blt n 208 then (bif Nat.blt n 207 then (some .int) else (some .long)) else (bif Nat.blt n 209 then (some .int) else (some .boolean)))))))))
def mm_by (n : Nat) : ByteArray := (bif Nat.blt n 105 then (bif Nat.blt n 52 then (bif Nat.blt n 26 then (bif Nat.blt n 13 then (bif Nat.blt n 6 then (bif Nat.blt n 3 then (bif Nat.blt n 1 then cX0_init else (bif Nat.blt n 2 then cX0_seat else cX0_forgetCitation)) else (bif Nat.blt n 4 then cX0_isMovedByOneMore else (bif Nat.blt n 5 then cX0_isToStand else cX0_clash))) else (bif Nat.blt n 9 then (bif Nat.blt n 7 then cX0_mattersTo else (bif Nat.blt n 8 then cX1_init else cX1_has)) else (bif Nat.blt n 11 then (bif Nat.blt n 10 then cX1_everyRuling else cX1_canBeCited) else (bif Nat.blt n 12 then cX1_citable else cX1_add)))) else (bif Nat.blt n 19 then (bif Nat.blt n 16 then (bif Nat.blt n 14 then cX1_cutTo else (bif Nat.blt n 15 then cX1_become else cX1_detail)) else (bif Nat.blt n 17 then cX1_citations else (bif Nat.blt n 18 then cX1_dependsOn else cX1_ofDay))) else (bif Nat.blt n 22 then (bif Nat.blt n 20 then cX1_othersOfItsDay else (bif Nat.blt n 21 then cX1_laterThan else cX1_countOf)) else (bif Nat.blt n 24 then (bif Nat.blt n 23 then cX1_likeness else cX1_decide) else (bif Nat.blt n 25 then cX1_verdictsBy else cX1_agrees))))) else (bif Nat.blt n 39 then (bif Nat.blt n 32 then (bif Nat.blt n 29 then (bif Nat.blt n 27 then cX2_init else (bif Nat.blt n 28 then cX2_read else cX2_skipBlanks)) else (bif Nat.blt n 30 then cX2_readItem else (bif Nat.blt n 31 then cX2_sign else cX2_letter))) else (bif Nat.blt n 35 then (bif Nat.blt n 33 then cX2_figure else (bif Nat.blt n 34 then cX2_readMarks else cX3_init)) else (bif Nat.blt n 37 then (bif Nat.blt n 36 then cX3_isMissing else cX3_has) else (bif Nat.blt n 38 then cX3_hasRun else cX3_value)))) else (bif Nat.blt n 45 then (bif Nat.blt n 42 then (bif Nat.blt n 40 then cX3_swap else (bif Nat.blt n 41 then cX3_renew else cX3_remove)) else (bif Nat.blt n 43 then cX3_sum else (bif Nat.blt n 44 then cX3_digestFrom else cX4_init))) else (bif Nat.blt n 48 then (bif Nat.blt n 46 then cX4_find else (bif Nat.blt n 47 then cX4_first else cX4_surelyStanding)) else (bif Nat.blt n 50 then (bif Nat.blt n 49 then cX4_surelyFalling else cX4_waysWith) else (bif Nat.blt n 51 then cX4_meets else cX5_init)))))) else (bif Nat.blt n 78 then (bif Nat.blt n 65 then (bif Nat.blt n 58 then (bif Nat.blt n 55 then (bif Nat.blt n 53 then cX5_row else (bif Nat.blt n 54 then cX5_lay else cX5_at)) else (bif Nat.blt n 56 then cX5_tear else (bif Nat.blt n 57 then cX5_copy else cX5_mean))) else (bif Nat.blt n 61 then (bif Nat.blt n 59 then cX5_text else (bif Nat.blt n 60 then cX5_put else cX5_fault)) else (bif Nat.blt n 63 then (bif Nat.blt n 62 then cX5_court else cX5_ruling) else (bif Nat.blt n 64 then cX5_mark else cX5_reverse)))) else (bif Nat.blt n 71 then (bif Nat.blt n 68 then (bif Nat.blt n 66 then cX5_marks else (bif Nat.blt n 67 then cX5_file else cX5_strike)) else (bif Nat.blt n 69 then cX5_keep else (bif Nat.blt n 70 then cX5_on else cX5_due))) else (bif Nat.blt n 74 then (bif Nat.blt n 72 then cX5_ways else (bif Nat.blt n 73 then cX5_nth else cX5_sure)) else (bif Nat.blt n 76 then (bif Nat.blt n 75 then cX5_odds else cX5_together) else (bif Nat.blt n 77 then cX5_till else cX5_flips))))) else (bif Nat.blt n 91 then (bif Nat.blt n 84 then (bif Nat.blt n 81 then (bif Nat.blt n 79 then cX5_jam else (bif Nat.blt n 80 then cX5_fell else cX5_guard)) else (bif Nat.blt n 82 then cX5_settle else (bif Nat.blt n 83 then cX5_matter else cX5_judge))) else (bif Nat.blt n 87 then (bif Nat.blt n 85 then cX5_like else (bif Nat.blt n 86 then cX5_verdict else cX5_surely)) else (bif Nat.blt n 89 then (bif Nat.blt n 88 then cX5_freed else cX5_code) else (bif Nat.blt n 90 then cX5_kinds else cX5_forged)))) else (bif Nat.blt n 98 then (bif Nat.blt n 94 then (bif Nat.blt n 92 then cX5_torn else (bif Nat.blt n 93 then cX5_lots else cX5_asked)) else (bif Nat.blt n 96 then (bif Nat.blt n 95 then cX5_upper else cX5_lower) else (bif Nat.blt n 97 then cX5_count else cX5_finding))) else (bif Nat.blt n 101 then (bif Nat.blt n 99 then cX5_findings else (bif Nat.blt n 100 then cX5_digest else cX5_within)) else (bif Nat.blt n 103 then (bif Nat.blt n 102 then cX5_holds else cX5_isOfKind) else (bif Nat.blt n 104 then cX5_greatestDivisor else cX5_refuse))))))) else (bif Nat.blt n 157 then (bif Nat.blt n 131 then (bif Nat.blt n 118 then (bif Nat.blt n 111 then (bif Nat.blt n 108 then (bif Nat.blt n 106 then cX5_tell else (bif Nat.blt n 107 then cX5_renewed else cX5_refusalOfPlace)) else (bif Nat.blt n 109 then cX5_isKept else (bif Nat.blt n 110 then cX5_findWays else cX5_fewest))) else (bif Nat.blt n 114 then (bif Nat.blt n 112 then cX5_canReach else (bif Nat.blt n 113 then cX5_changedWithout else cX5_fileByLot)) else (bif Nat.blt n 116 then (bif Nat.blt n 115 then cX5_countOf else cX5_there) else (bif Nat.blt n 117 then cX6_init else cX6_in)))) else (bif Nat.blt n 124 then (bif Nat.blt n 121 then (bif Nat.blt n 119 then cX6_has else (bif Nat.blt n 120 then cX6_ones else cX6_finds)) else (bif Nat.blt n 122 then cX6_tells else (bif Nat.blt n 123 then cX6_isRow else cX6_isText))) else (bif Nat.blt n 127 then (bif Nat.blt n 125 then cX6_row else (bif Nat.blt n 126 then cX6_lay else cX6_at)) else (bif Nat.blt n 129 then (bif Nat.blt n 128 then cX6_tear else cX6_isPart) else (bif Nat.blt n 130 then cX6_copy else cX6_mean))))) else (bif Nat.blt n 144 then (bif Nat.blt n 137 then (bif Nat.blt n 134 then (bif Nat.blt n 132 then cX6_text else (bif Nat.blt n 133 then cX6_put else cX6_byteAt)) else (bif Nat.blt n 135 then cX6_kindOf else (bif Nat.blt n 136 then cX6_figure else cX6_faults))) else (bif Nat.blt n 140 then (bif Nat.blt n 138 then cX6_readsCitation else (bif Nat.blt n 139 then cX6_readsItem else cX6_reads)) else (bif Nat.blt n 142 then (bif Nat.blt n 141 then cX6_fault else cX6_adds) else (bif Nat.blt n 143 then cX6_court else cX6_isRuling)))) else (bif Nat.blt n 150 then (bif Nat.blt n 147 then (bif Nat.blt n 145 then cX6_isSet else (bif Nat.blt n 146 then cX6_citing else cX6_told)) else (bif Nat.blt n 148 then cX6_ruling else (bif Nat.blt n 149 then cX6_isOf else cX6_depends))) else (bif Nat.blt n 153 then (bif Nat.blt n 151 then cX6_ofItsDay else (bif Nat.blt n 152 then cX6_mark else cX6_reverse)) else (bif Nat.blt n 155 then (bif Nat.blt n 154 then cX6_marks else cX6_file) else (bif Nat.blt n 156 then cX6_strike else cX6_keep)))))) else (bif Nat.blt n 183 then (bif Nat.blt n 170 then (bif Nat.blt n 163 then (bif Nat.blt n 160 then (bif Nat.blt n 158 then cX6_on else (bif Nat.blt n 159 then cX6_all else cX6_isDue)) else (bif Nat.blt n 161 then cX6_dueBy else (bif Nat.blt n 162 then cX6_isWay else cX6_due))) else (bif Nat.blt n 166 then (bif Nat.blt n 164 then cX6_wayMany else (bif Nat.blt n 165 then cX6_firstWay else cX6_standsIn)) else (bif Nat.blt n 168 then (bif Nat.blt n 167 then cX6_ways else cX6_nth) else (bif Nat.blt n 169 then cX6_findsSure else cX6_sure)))) else (bif Nat.blt n 176 then (bif Nat.blt n 173 then (bif Nat.blt n 171 then cX6_odds else (bif Nat.blt n 172 then cX6_together else cX6_upTo)) else (bif Nat.blt n 174 then cX6_till else (bif Nat.blt n 175 then cX6_flips else cX6_jam))) else (bif Nat.blt n 179 then (bif Nat.blt n 177 then cX6_isReached else (bif Nat.blt n 178 then cX6_power else cX6_strikes)) else (bif Nat.blt n 181 then (bif Nat.blt n 180 then cX6_files else cX6_fell) else (bif Nat.blt n 182 then cX6_guard else cX6_settle))))) else (bif Nat.blt n 196 then (bif Nat.blt n 189 then (bif Nat.blt n 186 then (bif Nat.blt n 184 then cX6_otherwise else (bif Nat.blt n 185 then cX6_matter else cX6_judge)) else (bif Nat.blt n 187 then cX6_likeness else (bif Nat.blt n 188 then cX6_like else cX6_verdictBy))) else (bif Nat.blt n 192 then (bif Nat.blt n 190 then cX6_verdict else (bif Nat.blt n 191 then cX6_surely else cX6_freed)) else (bif Nat.blt n 194 then (bif Nat.blt n 193 then cX6_agrees else cX6_code) else (bif Nat.blt n 195 then cX6_kinds else cX6_forged)))) else (bif Nat.blt n 203 then (bif Nat.blt n 199 then (bif Nat.blt n 197 then cX6_torn else (bif Nat.blt n 198 then cX6_ahead else cX6_nthAhead)) else (bif Nat.blt n 201 then (bif Nat.blt n 200 then cX6_lots else cX6_asked) else (bif Nat.blt n 202 then cX6_upper else cX6_lower))) else (bif Nat.blt n 206 then (bif Nat.blt n 204 then cX6_counted else (bif Nat.blt n 205 then cX6_count else cX6_finding)) else (bif Nat.blt n 208 then (bif Nat.blt n 207 then cX6_findings else cX6_digest) else (bif Nat.blt n 209 then cJ6_bitCount_0f7a4 else cL_law))))))))
def mm_ow (n : Nat) : String := (bif Nat.blt n 105 then (bif Nat.blt n 52 then (bif Nat.blt n 26 then (bif Nat.blt n 13 then (bif Nat.blt n 6 then (bif Nat.blt n 3 then (bif Nat.blt n 1 then RX0 else (bif Nat.blt n 2 then RX0 else RX0)) else (bif Nat.blt n 4 then RX0 else (bif Nat.blt n 5 then RX0 else RX0))) else (bif Nat.blt n 9 then (bif Nat.blt n 7 then RX0 else (bif Nat.blt n 8 then RX1 else RX1)) else (bif Nat.blt n 11 then (bif Nat.blt n 10 then RX1 else RX1) else (bif Nat.blt n 12 then RX1 else RX1)))) else (bif Nat.blt n 19 then (bif Nat.blt n 16 then (bif Nat.blt n 14 then RX1 else (bif Nat.blt n 15 then RX1 else RX1)) else (bif Nat.blt n 17 then RX1 else (bif Nat.blt n 18 then RX1 else RX1))) else (bif Nat.blt n 22 then (bif Nat.blt n 20 then RX1 else (bif Nat.blt n 21 then RX1 else RX1)) else (bif Nat.blt n 24 then (bif Nat.blt n 23 then RX1 else RX1) else (bif Nat.blt n 25 then RX1 else RX1))))) else (bif Nat.blt n 39 then (bif Nat.blt n 32 then (bif Nat.blt n 29 then (bif Nat.blt n 27 then RX2 else (bif Nat.blt n 28 then RX2 else RX2)) else (bif Nat.blt n 30 then RX2 else (bif Nat.blt n 31 then RX2 else RX2))) else (bif Nat.blt n 35 then (bif Nat.blt n 33 then RX2 else (bif Nat.blt n 34 then RX2 else RX3)) else (bif Nat.blt n 37 then (bif Nat.blt n 36 then RX3 else RX3) else (bif Nat.blt n 38 then RX3 else RX3)))) else (bif Nat.blt n 45 then (bif Nat.blt n 42 then (bif Nat.blt n 40 then RX3 else (bif Nat.blt n 41 then RX3 else RX3)) else (bif Nat.blt n 43 then RX3 else (bif Nat.blt n 44 then RX3 else RX4))) else (bif Nat.blt n 48 then (bif Nat.blt n 46 then RX4 else (bif Nat.blt n 47 then RX4 else RX4)) else (bif Nat.blt n 50 then (bif Nat.blt n 49 then RX4 else RX4) else (bif Nat.blt n 51 then RX4 else RX5)))))) else (bif Nat.blt n 78 then (bif Nat.blt n 65 then (bif Nat.blt n 58 then (bif Nat.blt n 55 then (bif Nat.blt n 53 then RX5 else (bif Nat.blt n 54 then RX5 else RX5)) else (bif Nat.blt n 56 then RX5 else (bif Nat.blt n 57 then RX5 else RX5))) else (bif Nat.blt n 61 then (bif Nat.blt n 59 then RX5 else (bif Nat.blt n 60 then RX5 else RX5)) else (bif Nat.blt n 63 then (bif Nat.blt n 62 then RX5 else RX5) else (bif Nat.blt n 64 then RX5 else RX5)))) else (bif Nat.blt n 71 then (bif Nat.blt n 68 then (bif Nat.blt n 66 then RX5 else (bif Nat.blt n 67 then RX5 else RX5)) else (bif Nat.blt n 69 then RX5 else (bif Nat.blt n 70 then RX5 else RX5))) else (bif Nat.blt n 74 then (bif Nat.blt n 72 then RX5 else (bif Nat.blt n 73 then RX5 else RX5)) else (bif Nat.blt n 76 then (bif Nat.blt n 75 then RX5 else RX5) else (bif Nat.blt n 77 then RX5 else RX5))))) else (bif Nat.blt n 91 then (bif Nat.blt n 84 then (bif Nat.blt n 81 then (bif Nat.blt n 79 then RX5 else (bif Nat.blt n 80 then RX5 else RX5)) else (bif Nat.blt n 82 then RX5 else (bif Nat.blt n 83 then RX5 else RX5))) else (bif Nat.blt n 87 then (bif Nat.blt n 85 then RX5 else (bif Nat.blt n 86 then RX5 else RX5)) else (bif Nat.blt n 89 then (bif Nat.blt n 88 then RX5 else RX5) else (bif Nat.blt n 90 then RX5 else RX5)))) else (bif Nat.blt n 98 then (bif Nat.blt n 94 then (bif Nat.blt n 92 then RX5 else (bif Nat.blt n 93 then RX5 else RX5)) else (bif Nat.blt n 96 then (bif Nat.blt n 95 then RX5 else RX5) else (bif Nat.blt n 97 then RX5 else RX5))) else (bif Nat.blt n 101 then (bif Nat.blt n 99 then RX5 else (bif Nat.blt n 100 then RX5 else RX5)) else (bif Nat.blt n 103 then (bif Nat.blt n 102 then RX5 else RX5) else (bif Nat.blt n 104 then RX5 else RX5))))))) else (bif Nat.blt n 157 then (bif Nat.blt n 131 then (bif Nat.blt n 118 then (bif Nat.blt n 111 then (bif Nat.blt n 108 then (bif Nat.blt n 106 then RX5 else (bif Nat.blt n 107 then RX5 else RX5)) else (bif Nat.blt n 109 then RX5 else (bif Nat.blt n 110 then RX5 else RX5))) else (bif Nat.blt n 114 then (bif Nat.blt n 112 then RX5 else (bif Nat.blt n 113 then RX5 else RX5)) else (bif Nat.blt n 116 then (bif Nat.blt n 115 then RX5 else RX5) else (bif Nat.blt n 117 then RX6 else RX6)))) else (bif Nat.blt n 124 then (bif Nat.blt n 121 then (bif Nat.blt n 119 then RX6 else (bif Nat.blt n 120 then RX6 else RX6)) else (bif Nat.blt n 122 then RX6 else (bif Nat.blt n 123 then RX6 else RX6))) else (bif Nat.blt n 127 then (bif Nat.blt n 125 then RX6 else (bif Nat.blt n 126 then RX6 else RX6)) else (bif Nat.blt n 129 then (bif Nat.blt n 128 then RX6 else RX6) else (bif Nat.blt n 130 then RX6 else RX6))))) else (bif Nat.blt n 144 then (bif Nat.blt n 137 then (bif Nat.blt n 134 then (bif Nat.blt n 132 then RX6 else (bif Nat.blt n 133 then RX6 else RX6)) else (bif Nat.blt n 135 then RX6 else (bif Nat.blt n 136 then RX6 else RX6))) else (bif Nat.blt n 140 then (bif Nat.blt n 138 then RX6 else (bif Nat.blt n 139 then RX6 else RX6)) else (bif Nat.blt n 142 then (bif Nat.blt n 141 then RX6 else RX6) else (bif Nat.blt n 143 then RX6 else RX6)))) else (bif Nat.blt n 150 then (bif Nat.blt n 147 then (bif Nat.blt n 145 then RX6 else (bif Nat.blt n 146 then RX6 else RX6)) else (bif Nat.blt n 148 then RX6 else (bif Nat.blt n 149 then RX6 else RX6))) else (bif Nat.blt n 153 then (bif Nat.blt n 151 then RX6 else (bif Nat.blt n 152 then RX6 else RX6)) else (bif Nat.blt n 155 then (bif Nat.blt n 154 then RX6 else RX6) else (bif Nat.blt n 156 then RX6 else RX6)))))) else (bif Nat.blt n 183 then (bif Nat.blt n 170 then (bif Nat.blt n 163 then (bif Nat.blt n 160 then (bif Nat.blt n 158 then RX6 else (bif Nat.blt n 159 then RX6 else RX6)) else (bif Nat.blt n 161 then RX6 else (bif Nat.blt n 162 then RX6 else RX6))) else (bif Nat.blt n 166 then (bif Nat.blt n 164 then RX6 else (bif Nat.blt n 165 then RX6 else RX6)) else (bif Nat.blt n 168 then (bif Nat.blt n 167 then RX6 else RX6) else (bif Nat.blt n 169 then RX6 else RX6)))) else (bif Nat.blt n 176 then (bif Nat.blt n 173 then (bif Nat.blt n 171 then RX6 else (bif Nat.blt n 172 then RX6 else RX6)) else (bif Nat.blt n 174 then RX6 else (bif Nat.blt n 175 then RX6 else RX6))) else (bif Nat.blt n 179 then (bif Nat.blt n 177 then RX6 else (bif Nat.blt n 178 then RX6 else RX6)) else (bif Nat.blt n 181 then (bif Nat.blt n 180 then RX6 else RX6) else (bif Nat.blt n 182 then RX6 else RX6))))) else (bif Nat.blt n 196 then (bif Nat.blt n 189 then (bif Nat.blt n 186 then (bif Nat.blt n 184 then RX6 else (bif Nat.blt n 185 then RX6 else RX6)) else (bif Nat.blt n 187 then RX6 else (bif Nat.blt n 188 then RX6 else RX6))) else (bif Nat.blt n 192 then (bif Nat.blt n 190 then RX6 else (bif Nat.blt n 191 then RX6 else RX6)) else (bif Nat.blt n 194 then (bif Nat.blt n 193 then RX6 else RX6) else (bif Nat.blt n 195 then RX6 else RX6)))) else (bif Nat.blt n 203 then (bif Nat.blt n 199 then (bif Nat.blt n 197 then RX6 else (bif Nat.blt n 198 then RX6 else RX6)) else (bif Nat.blt n 201 then (bif Nat.blt n 200 then RX6 else RX6) else (bif Nat.blt n 202 then RX6 else RX6))) else (bif Nat.blt n 206 then (bif Nat.blt n 204 then RX6 else (bif Nat.blt n 205 then RX6 else RX6)) else (bif Nat.blt n 208 then (bif Nat.blt n 207 then RX6 else RX6) else (bif Nat.blt n 209 then RJ6 else RL))))))))
def mm_al (n : Nat) : Nat × Nat := (bif Nat.blt n 105 then (bif Nat.blt n 52 then (bif Nat.blt n 26 then (bif Nat.blt n 13 then (bif Nat.blt n 6 then (bif Nat.blt n 3 then (bif Nat.blt n 1 then (6, 54) else (bif Nat.blt n 2 then (0, 0) else (0, 0))) else (bif Nat.blt n 4 then (0, 0) else (bif Nat.blt n 5 then (0, 0) else (0, 0)))) else (bif Nat.blt n 9 then (bif Nat.blt n 7 then (0, 0) else (bif Nat.blt n 8 then (6, 54) else (0, 0))) else (bif Nat.blt n 11 then (bif Nat.blt n 10 then (0, 0) else (0, 0)) else (bif Nat.blt n 12 then (0, 0) else (0, 0))))) else (bif Nat.blt n 19 then (bif Nat.blt n 16 then (bif Nat.blt n 14 then (0, 0) else (bif Nat.blt n 15 then (0, 0) else (0, 0))) else (bif Nat.blt n 17 then (0, 0) else (bif Nat.blt n 18 then (0, 0) else (0, 0)))) else (bif Nat.blt n 22 then (bif Nat.blt n 20 then (0, 0) else (bif Nat.blt n 21 then (0, 0) else (0, 0))) else (bif Nat.blt n 24 then (bif Nat.blt n 23 then (0, 0) else (0, 0)) else (bif Nat.blt n 25 then (0, 0) else (0, 0)))))) else (bif Nat.blt n 39 then (bif Nat.blt n 32 then (bif Nat.blt n 29 then (bif Nat.blt n 27 then (9, 143) else (bif Nat.blt n 28 then (0, 0) else (0, 0))) else (bif Nat.blt n 30 then (0, 0) else (bif Nat.blt n 31 then (0, 0) else (0, 0)))) else (bif Nat.blt n 35 then (bif Nat.blt n 33 then (0, 0) else (bif Nat.blt n 34 then (0, 0) else (1, 80))) else (bif Nat.blt n 37 then (bif Nat.blt n 36 then (0, 0) else (0, 0)) else (bif Nat.blt n 38 then (0, 0) else (0, 0))))) else (bif Nat.blt n 45 then (bif Nat.blt n 42 then (bif Nat.blt n 40 then (0, 0) else (bif Nat.blt n 41 then (0, 0) else (0, 0))) else (bif Nat.blt n 43 then (0, 0) else (bif Nat.blt n 44 then (0, 0) else (1, 512)))) else (bif Nat.blt n 48 then (bif Nat.blt n 46 then (0, 0) else (bif Nat.blt n 47 then (0, 0) else (0, 0))) else (bif Nat.blt n 50 then (bif Nat.blt n 49 then (0, 0) else (0, 0)) else (bif Nat.blt n 51 then (0, 0) else (90, 2500))))))) else (bif Nat.blt n 78 then (bif Nat.blt n 65 then (bif Nat.blt n 58 then (bif Nat.blt n 55 then (bif Nat.blt n 53 then (0, 0) else (bif Nat.blt n 54 then (0, 0) else (0, 0))) else (bif Nat.blt n 56 then (0, 0) else (bif Nat.blt n 57 then (0, 0) else (0, 0)))) else (bif Nat.blt n 61 then (bif Nat.blt n 59 then (0, 0) else (bif Nat.blt n 60 then (0, 0) else (0, 0))) else (bif Nat.blt n 63 then (bif Nat.blt n 62 then (0, 0) else (0, 0)) else (bif Nat.blt n 64 then (0, 0) else (0, 0))))) else (bif Nat.blt n 71 then (bif Nat.blt n 68 then (bif Nat.blt n 66 then (0, 0) else (bif Nat.blt n 67 then (0, 0) else (0, 0))) else (bif Nat.blt n 69 then (0, 0) else (bif Nat.blt n 70 then (0, 0) else (0, 0)))) else (bif Nat.blt n 74 then (bif Nat.blt n 72 then (0, 0) else (bif Nat.blt n 73 then (0, 0) else (0, 0))) else (bif Nat.blt n 76 then (bif Nat.blt n 75 then (0, 0) else (0, 0)) else (bif Nat.blt n 77 then (0, 0) else (0, 0)))))) else (bif Nat.blt n 91 then (bif Nat.blt n 84 then (bif Nat.blt n 81 then (bif Nat.blt n 79 then (0, 0) else (bif Nat.blt n 80 then (0, 0) else (0, 0))) else (bif Nat.blt n 82 then (0, 0) else (bif Nat.blt n 83 then (0, 0) else (0, 0)))) else (bif Nat.blt n 87 then (bif Nat.blt n 85 then (0, 0) else (bif Nat.blt n 86 then (0, 0) else (0, 0))) else (bif Nat.blt n 89 then (bif Nat.blt n 88 then (0, 0) else (0, 0)) else (bif Nat.blt n 90 then (0, 0) else (0, 0))))) else (bif Nat.blt n 98 then (bif Nat.blt n 94 then (bif Nat.blt n 92 then (0, 0) else (bif Nat.blt n 93 then (0, 0) else (0, 0))) else (bif Nat.blt n 96 then (bif Nat.blt n 95 then (0, 0) else (0, 0)) else (bif Nat.blt n 97 then (0, 0) else (0, 0)))) else (bif Nat.blt n 101 then (bif Nat.blt n 99 then (0, 0) else (bif Nat.blt n 100 then (0, 0) else (0, 0))) else (bif Nat.blt n 103 then (bif Nat.blt n 102 then (0, 0) else (0, 0)) else (bif Nat.blt n 104 then (0, 0) else (0, 0)))))))) else (bif Nat.blt n 157 then (bif Nat.blt n 131 then (bif Nat.blt n 118 then (bif Nat.blt n 111 then (bif Nat.blt n 108 then (bif Nat.blt n 106 then (0, 0) else (bif Nat.blt n 107 then (0, 0) else (0, 0))) else (bif Nat.blt n 109 then (0, 0) else (bif Nat.blt n 110 then (0, 0) else (0, 0)))) else (bif Nat.blt n 114 then (bif Nat.blt n 112 then (0, 0) else (bif Nat.blt n 113 then (0, 0) else (0, 0))) else (bif Nat.blt n 116 then (bif Nat.blt n 115 then (0, 0) else (0, 0)) else (bif Nat.blt n 117 then (24, 1200) else (0, 0))))) else (bif Nat.blt n 124 then (bif Nat.blt n 121 then (bif Nat.blt n 119 then (0, 0) else (bif Nat.blt n 120 then (0, 0) else (0, 0))) else (bif Nat.blt n 122 then (0, 0) else (bif Nat.blt n 123 then (0, 0) else (0, 0)))) else (bif Nat.blt n 127 then (bif Nat.blt n 125 then (0, 0) else (bif Nat.blt n 126 then (0, 0) else (0, 0))) else (bif Nat.blt n 129 then (bif Nat.blt n 128 then (0, 0) else (0, 0)) else (bif Nat.blt n 130 then (0, 0) else (0, 0)))))) else (bif Nat.blt n 144 then (bif Nat.blt n 137 then (bif Nat.blt n 134 then (bif Nat.blt n 132 then (0, 0) else (bif Nat.blt n 133 then (0, 0) else (0, 0))) else (bif Nat.blt n 135 then (0, 0) else (bif Nat.blt n 136 then (0, 0) else (0, 0)))) else (bif Nat.blt n 140 then (bif Nat.blt n 138 then (0, 0) else (bif Nat.blt n 139 then (0, 0) else (0, 0))) else (bif Nat.blt n 142 then (bif Nat.blt n 141 then (0, 0) else (0, 0)) else (bif Nat.blt n 143 then (0, 0) else (0, 0))))) else (bif Nat.blt n 150 then (bif Nat.blt n 147 then (bif Nat.blt n 145 then (0, 0) else (bif Nat.blt n 146 then (0, 0) else (0, 0))) else (bif Nat.blt n 148 then (0, 0) else (bif Nat.blt n 149 then (0, 0) else (0, 0)))) else (bif Nat.blt n 153 then (bif Nat.blt n 151 then (0, 0) else (bif Nat.blt n 152 then (0, 0) else (0, 0))) else (bif Nat.blt n 155 then (bif Nat.blt n 154 then (0, 0) else (0, 0)) else (bif Nat.blt n 156 then (0, 0) else (0, 0))))))) else (bif Nat.blt n 183 then (bif Nat.blt n 170 then (bif Nat.blt n 163 then (bif Nat.blt n 160 then (bif Nat.blt n 158 then (0, 0) else (bif Nat.blt n 159 then (0, 0) else (0, 0))) else (bif Nat.blt n 161 then (0, 0) else (bif Nat.blt n 162 then (0, 0) else (0, 0)))) else (bif Nat.blt n 166 then (bif Nat.blt n 164 then (0, 0) else (bif Nat.blt n 165 then (0, 0) else (0, 0))) else (bif Nat.blt n 168 then (bif Nat.blt n 167 then (0, 0) else (0, 0)) else (bif Nat.blt n 169 then (0, 0) else (0, 0))))) else (bif Nat.blt n 176 then (bif Nat.blt n 173 then (bif Nat.blt n 171 then (0, 0) else (bif Nat.blt n 172 then (0, 0) else (0, 0))) else (bif Nat.blt n 174 then (0, 0) else (bif Nat.blt n 175 then (0, 0) else (0, 0)))) else (bif Nat.blt n 179 then (bif Nat.blt n 177 then (0, 0) else (bif Nat.blt n 178 then (0, 0) else (0, 0))) else (bif Nat.blt n 181 then (bif Nat.blt n 180 then (0, 0) else (0, 0)) else (bif Nat.blt n 182 then (0, 0) else (0, 0)))))) else (bif Nat.blt n 196 then (bif Nat.blt n 189 then (bif Nat.blt n 186 then (bif Nat.blt n 184 then (0, 0) else (bif Nat.blt n 185 then (0, 0) else (0, 0))) else (bif Nat.blt n 187 then (0, 0) else (bif Nat.blt n 188 then (0, 0) else (0, 0)))) else (bif Nat.blt n 192 then (bif Nat.blt n 190 then (0, 0) else (bif Nat.blt n 191 then (0, 0) else (0, 0))) else (bif Nat.blt n 194 then (bif Nat.blt n 193 then (0, 0) else (0, 0)) else (bif Nat.blt n 195 then (0, 0) else (0, 0))))) else (bif Nat.blt n 203 then (bif Nat.blt n 199 then (bif Nat.blt n 197 then (0, 0) else (bif Nat.blt n 198 then (0, 0) else (0, 0))) else (bif Nat.blt n 201 then (bif Nat.blt n 200 then (0, 0) else (0, 0)) else (bif Nat.blt n 202 then (0, 0) else (0, 0)))) else (bif Nat.blt n 206 then (bif Nat.blt n 204 then (0, 0) else (bif Nat.blt n 205 then (0, 0) else (0, 0))) else (bif Nat.blt n 208 then (bif Nat.blt n 207 then (0, 0) else (0, 0)) else (bif Nat.blt n 209 then (0, 0) else (600000, 7302250)))))))))
def mm_y (n : Nat) : MethodName := (bif Nat.blt n 105 then (bif Nat.blt n 52 then (bif Nat.blt n 26 then (bif Nat.blt n 13 then (bif Nat.blt n 6 then (bif Nat.blt n 3 then (bif Nat.blt n 1 then yX0_init else (bif Nat.blt n 2 then yX0_seat else yX0_forgetCitation)) else (bif Nat.blt n 4 then yX0_isMovedByOneMore else (bif Nat.blt n 5 then yX0_isToStand else yX0_clash))) else (bif Nat.blt n 9 then (bif Nat.blt n 7 then yX0_mattersTo else (bif Nat.blt n 8 then yX1_init else yX1_has)) else (bif Nat.blt n 11 then (bif Nat.blt n 10 then yX1_everyRuling else yX1_canBeCited) else (bif Nat.blt n 12 then yX1_citable else yX1_add)))) else (bif Nat.blt n 19 then (bif Nat.blt n 16 then (bif Nat.blt n 14 then yX1_cutTo else (bif Nat.blt n 15 then yX1_become else yX1_detail)) else (bif Nat.blt n 17 then yX1_citations else (bif Nat.blt n 18 then yX1_dependsOn else yX1_ofDay))) else (bif Nat.blt n 22 then (bif Nat.blt n 20 then yX1_othersOfItsDay else (bif Nat.blt n 21 then yX1_laterThan else yX1_countOf)) else (bif Nat.blt n 24 then (bif Nat.blt n 23 then yX1_likeness else yX1_decide) else (bif Nat.blt n 25 then yX1_verdictsBy else yX1_agrees))))) else (bif Nat.blt n 39 then (bif Nat.blt n 32 then (bif Nat.blt n 29 then (bif Nat.blt n 27 then yX2_init else (bif Nat.blt n 28 then yX2_read else yX2_skipBlanks)) else (bif Nat.blt n 30 then yX2_readItem else (bif Nat.blt n 31 then yX2_sign else yX2_letter))) else (bif Nat.blt n 35 then (bif Nat.blt n 33 then yX2_figure else (bif Nat.blt n 34 then yX2_readMarks else yX3_init)) else (bif Nat.blt n 37 then (bif Nat.blt n 36 then yX3_isMissing else yX3_has) else (bif Nat.blt n 38 then yX3_hasRun else yX3_value)))) else (bif Nat.blt n 45 then (bif Nat.blt n 42 then (bif Nat.blt n 40 then yX3_swap else (bif Nat.blt n 41 then yX3_renew else yX3_remove)) else (bif Nat.blt n 43 then yX3_sum else (bif Nat.blt n 44 then yX3_digestFrom else yX4_init))) else (bif Nat.blt n 48 then (bif Nat.blt n 46 then yX4_find else (bif Nat.blt n 47 then yX4_first else yX4_surelyStanding)) else (bif Nat.blt n 50 then (bif Nat.blt n 49 then yX4_surelyFalling else yX4_waysWith) else (bif Nat.blt n 51 then yX4_meets else yX5_init)))))) else (bif Nat.blt n 78 then (bif Nat.blt n 65 then (bif Nat.blt n 58 then (bif Nat.blt n 55 then (bif Nat.blt n 53 then yX5_row else (bif Nat.blt n 54 then yX5_lay else yX5_at)) else (bif Nat.blt n 56 then yX5_tear else (bif Nat.blt n 57 then yX5_copy else yX5_mean))) else (bif Nat.blt n 61 then (bif Nat.blt n 59 then yX5_text else (bif Nat.blt n 60 then yX5_put else yX5_fault)) else (bif Nat.blt n 63 then (bif Nat.blt n 62 then yX5_court else yX5_ruling) else (bif Nat.blt n 64 then yX5_mark else yX5_reverse)))) else (bif Nat.blt n 71 then (bif Nat.blt n 68 then (bif Nat.blt n 66 then yX5_marks else (bif Nat.blt n 67 then yX5_file else yX5_strike)) else (bif Nat.blt n 69 then yX5_keep else (bif Nat.blt n 70 then yX5_on else yX5_due))) else (bif Nat.blt n 74 then (bif Nat.blt n 72 then yX5_ways else (bif Nat.blt n 73 then yX5_nth else yX5_sure)) else (bif Nat.blt n 76 then (bif Nat.blt n 75 then yX5_odds else yX5_together) else (bif Nat.blt n 77 then yX5_till else yX5_flips))))) else (bif Nat.blt n 91 then (bif Nat.blt n 84 then (bif Nat.blt n 81 then (bif Nat.blt n 79 then yX5_jam else (bif Nat.blt n 80 then yX5_fell else yX5_guard)) else (bif Nat.blt n 82 then yX5_settle else (bif Nat.blt n 83 then yX5_matter else yX5_judge))) else (bif Nat.blt n 87 then (bif Nat.blt n 85 then yX5_like else (bif Nat.blt n 86 then yX5_verdict else yX5_surely)) else (bif Nat.blt n 89 then (bif Nat.blt n 88 then yX5_freed else yX5_code) else (bif Nat.blt n 90 then yX5_kinds else yX5_forged)))) else (bif Nat.blt n 98 then (bif Nat.blt n 94 then (bif Nat.blt n 92 then yX5_torn else (bif Nat.blt n 93 then yX5_lots else yX5_asked)) else (bif Nat.blt n 96 then (bif Nat.blt n 95 then yX5_upper else yX5_lower) else (bif Nat.blt n 97 then yX5_count else yX5_finding))) else (bif Nat.blt n 101 then (bif Nat.blt n 99 then yX5_findings else (bif Nat.blt n 100 then yX5_digest else yX5_within)) else (bif Nat.blt n 103 then (bif Nat.blt n 102 then yX5_holds else yX5_isOfKind) else (bif Nat.blt n 104 then yX5_greatestDivisor else yX5_refuse))))))) else (bif Nat.blt n 157 then (bif Nat.blt n 131 then (bif Nat.blt n 118 then (bif Nat.blt n 111 then (bif Nat.blt n 108 then (bif Nat.blt n 106 then yX5_tell else (bif Nat.blt n 107 then yX5_renewed else yX5_refusalOfPlace)) else (bif Nat.blt n 109 then yX5_isKept else (bif Nat.blt n 110 then yX5_findWays else yX5_fewest))) else (bif Nat.blt n 114 then (bif Nat.blt n 112 then yX5_canReach else (bif Nat.blt n 113 then yX5_changedWithout else yX5_fileByLot)) else (bif Nat.blt n 116 then (bif Nat.blt n 115 then yX5_countOf else yX5_there) else (bif Nat.blt n 117 then yX6_init else yX6_in)))) else (bif Nat.blt n 124 then (bif Nat.blt n 121 then (bif Nat.blt n 119 then yX6_has else (bif Nat.blt n 120 then yX6_ones else yX6_finds)) else (bif Nat.blt n 122 then yX6_tells else (bif Nat.blt n 123 then yX6_isRow else yX6_isText))) else (bif Nat.blt n 127 then (bif Nat.blt n 125 then yX6_row else (bif Nat.blt n 126 then yX6_lay else yX6_at)) else (bif Nat.blt n 129 then (bif Nat.blt n 128 then yX6_tear else yX6_isPart) else (bif Nat.blt n 130 then yX6_copy else yX6_mean))))) else (bif Nat.blt n 144 then (bif Nat.blt n 137 then (bif Nat.blt n 134 then (bif Nat.blt n 132 then yX6_text else (bif Nat.blt n 133 then yX6_put else yX6_byteAt)) else (bif Nat.blt n 135 then yX6_kindOf else (bif Nat.blt n 136 then yX6_figure else yX6_faults))) else (bif Nat.blt n 140 then (bif Nat.blt n 138 then yX6_readsCitation else (bif Nat.blt n 139 then yX6_readsItem else yX6_reads)) else (bif Nat.blt n 142 then (bif Nat.blt n 141 then yX6_fault else yX6_adds) else (bif Nat.blt n 143 then yX6_court else yX6_isRuling)))) else (bif Nat.blt n 150 then (bif Nat.blt n 147 then (bif Nat.blt n 145 then yX6_isSet else (bif Nat.blt n 146 then yX6_citing else yX6_told)) else (bif Nat.blt n 148 then yX6_ruling else (bif Nat.blt n 149 then yX6_isOf else yX6_depends))) else (bif Nat.blt n 153 then (bif Nat.blt n 151 then yX6_ofItsDay else (bif Nat.blt n 152 then yX6_mark else yX6_reverse)) else (bif Nat.blt n 155 then (bif Nat.blt n 154 then yX6_marks else yX6_file) else (bif Nat.blt n 156 then yX6_strike else yX6_keep)))))) else (bif Nat.blt n 183 then (bif Nat.blt n 170 then (bif Nat.blt n 163 then (bif Nat.blt n 160 then (bif Nat.blt n 158 then yX6_on else (bif Nat.blt n 159 then yX6_all else yX6_isDue)) else (bif Nat.blt n 161 then yX6_dueBy else (bif Nat.blt n 162 then yX6_isWay else yX6_due))) else (bif Nat.blt n 166 then (bif Nat.blt n 164 then yX6_wayMany else (bif Nat.blt n 165 then yX6_firstWay else yX6_standsIn)) else (bif Nat.blt n 168 then (bif Nat.blt n 167 then yX6_ways else yX6_nth) else (bif Nat.blt n 169 then yX6_findsSure else yX6_sure)))) else (bif Nat.blt n 176 then (bif Nat.blt n 173 then (bif Nat.blt n 171 then yX6_odds else (bif Nat.blt n 172 then yX6_together else yX6_upTo)) else (bif Nat.blt n 174 then yX6_till else (bif Nat.blt n 175 then yX6_flips else yX6_jam))) else (bif Nat.blt n 179 then (bif Nat.blt n 177 then yX6_isReached else (bif Nat.blt n 178 then yX6_power else yX6_strikes)) else (bif Nat.blt n 181 then (bif Nat.blt n 180 then yX6_files else yX6_fell) else (bif Nat.blt n 182 then yX6_guard else yX6_settle))))) else (bif Nat.blt n 196 then (bif Nat.blt n 189 then (bif Nat.blt n 186 then (bif Nat.blt n 184 then yX6_otherwise else (bif Nat.blt n 185 then yX6_matter else yX6_judge)) else (bif Nat.blt n 187 then yX6_likeness else (bif Nat.blt n 188 then yX6_like else yX6_verdictBy))) else (bif Nat.blt n 192 then (bif Nat.blt n 190 then yX6_verdict else (bif Nat.blt n 191 then yX6_surely else yX6_freed)) else (bif Nat.blt n 194 then (bif Nat.blt n 193 then yX6_agrees else yX6_code) else (bif Nat.blt n 195 then yX6_kinds else yX6_forged)))) else (bif Nat.blt n 203 then (bif Nat.blt n 199 then (bif Nat.blt n 197 then yX6_torn else (bif Nat.blt n 198 then yX6_ahead else yX6_nthAhead)) else (bif Nat.blt n 201 then (bif Nat.blt n 200 then yX6_lots else yX6_asked) else (bif Nat.blt n 202 then yX6_upper else yX6_lower))) else (bif Nat.blt n 206 then (bif Nat.blt n 204 then yX6_counted else (bif Nat.blt n 205 then yX6_count else yX6_finding)) else (bif Nat.blt n 208 then (bif Nat.blt n 207 then yX6_findings else yX6_digest) else (bif Nat.blt n 209 then yJ6_bitCount_0f7a4 else yL_law))))))))
def mm_rc (n : Nat) : Nat := (bif Nat.blt n 105 then (bif Nat.blt n 52 then (bif Nat.blt n 26 then (bif Nat.blt n 13 then (bif Nat.blt n 6 then (bif Nat.blt n 3 then (bif Nat.blt n 1 then 0 else (bif Nat.blt n 2 then 0 else 0)) else (bif Nat.blt n 4 then 0 else (bif Nat.blt n 5 then 0 else 0))) else (bif Nat.blt n 9 then (bif Nat.blt n 7 then 0 else (bif Nat.blt n 8 then 1 else 1)) else (bif Nat.blt n 11 then (bif Nat.blt n 10 then 1 else 1) else (bif Nat.blt n 12 then 1 else 1)))) else (bif Nat.blt n 19 then (bif Nat.blt n 16 then (bif Nat.blt n 14 then 1 else (bif Nat.blt n 15 then 1 else 1)) else (bif Nat.blt n 17 then 1 else (bif Nat.blt n 18 then 1 else 1))) else (bif Nat.blt n 22 then (bif Nat.blt n 20 then 1 else (bif Nat.blt n 21 then 1 else 1)) else (bif Nat.blt n 24 then (bif Nat.blt n 23 then 1 else 1) else (bif Nat.blt n 25 then 1 else 1))))) else (bif Nat.blt n 39 then (bif Nat.blt n 32 then (bif Nat.blt n 29 then (bif Nat.blt n 27 then 2 else (bif Nat.blt n 28 then 2 else 2)) else (bif Nat.blt n 30 then 2 else (bif Nat.blt n 31 then 2 else 2))) else (bif Nat.blt n 35 then (bif Nat.blt n 33 then 2 else (bif Nat.blt n 34 then 2 else 3)) else (bif Nat.blt n 37 then (bif Nat.blt n 36 then 3 else 3) else (bif Nat.blt n 38 then 3 else 3)))) else (bif Nat.blt n 45 then (bif Nat.blt n 42 then (bif Nat.blt n 40 then 3 else (bif Nat.blt n 41 then 3 else 3)) else (bif Nat.blt n 43 then 3 else (bif Nat.blt n 44 then 3 else 4))) else (bif Nat.blt n 48 then (bif Nat.blt n 46 then 4 else (bif Nat.blt n 47 then 4 else 4)) else (bif Nat.blt n 50 then (bif Nat.blt n 49 then 4 else 4) else (bif Nat.blt n 51 then 4 else 5)))))) else (bif Nat.blt n 78 then (bif Nat.blt n 65 then (bif Nat.blt n 58 then (bif Nat.blt n 55 then (bif Nat.blt n 53 then 5 else (bif Nat.blt n 54 then 5 else 5)) else (bif Nat.blt n 56 then 5 else (bif Nat.blt n 57 then 5 else 5))) else (bif Nat.blt n 61 then (bif Nat.blt n 59 then 5 else (bif Nat.blt n 60 then 5 else 5)) else (bif Nat.blt n 63 then (bif Nat.blt n 62 then 5 else 5) else (bif Nat.blt n 64 then 5 else 5)))) else (bif Nat.blt n 71 then (bif Nat.blt n 68 then (bif Nat.blt n 66 then 5 else (bif Nat.blt n 67 then 5 else 5)) else (bif Nat.blt n 69 then 5 else (bif Nat.blt n 70 then 5 else 5))) else (bif Nat.blt n 74 then (bif Nat.blt n 72 then 5 else (bif Nat.blt n 73 then 5 else 5)) else (bif Nat.blt n 76 then (bif Nat.blt n 75 then 5 else 5) else (bif Nat.blt n 77 then 5 else 5))))) else (bif Nat.blt n 91 then (bif Nat.blt n 84 then (bif Nat.blt n 81 then (bif Nat.blt n 79 then 5 else (bif Nat.blt n 80 then 5 else 5)) else (bif Nat.blt n 82 then 5 else (bif Nat.blt n 83 then 5 else 5))) else (bif Nat.blt n 87 then (bif Nat.blt n 85 then 5 else (bif Nat.blt n 86 then 5 else 5)) else (bif Nat.blt n 89 then (bif Nat.blt n 88 then 5 else 5) else (bif Nat.blt n 90 then 5 else 5)))) else (bif Nat.blt n 98 then (bif Nat.blt n 94 then (bif Nat.blt n 92 then 5 else (bif Nat.blt n 93 then 5 else 5)) else (bif Nat.blt n 96 then (bif Nat.blt n 95 then 5 else 5) else (bif Nat.blt n 97 then 5 else 5))) else (bif Nat.blt n 101 then (bif Nat.blt n 99 then 5 else (bif Nat.blt n 100 then 5 else 5)) else (bif Nat.blt n 103 then (bif Nat.blt n 102 then 5 else 5) else (bif Nat.blt n 104 then 5 else 5))))))) else (bif Nat.blt n 157 then (bif Nat.blt n 131 then (bif Nat.blt n 118 then (bif Nat.blt n 111 then (bif Nat.blt n 108 then (bif Nat.blt n 106 then 5 else (bif Nat.blt n 107 then 5 else 5)) else (bif Nat.blt n 109 then 5 else (bif Nat.blt n 110 then 5 else 5))) else (bif Nat.blt n 114 then (bif Nat.blt n 112 then 5 else (bif Nat.blt n 113 then 5 else 5)) else (bif Nat.blt n 116 then (bif Nat.blt n 115 then 5 else 5) else (bif Nat.blt n 117 then 6 else 6)))) else (bif Nat.blt n 124 then (bif Nat.blt n 121 then (bif Nat.blt n 119 then 6 else (bif Nat.blt n 120 then 6 else 6)) else (bif Nat.blt n 122 then 6 else (bif Nat.blt n 123 then 6 else 6))) else (bif Nat.blt n 127 then (bif Nat.blt n 125 then 6 else (bif Nat.blt n 126 then 6 else 6)) else (bif Nat.blt n 129 then (bif Nat.blt n 128 then 6 else 6) else (bif Nat.blt n 130 then 6 else 6))))) else (bif Nat.blt n 144 then (bif Nat.blt n 137 then (bif Nat.blt n 134 then (bif Nat.blt n 132 then 6 else (bif Nat.blt n 133 then 6 else 6)) else (bif Nat.blt n 135 then 6 else (bif Nat.blt n 136 then 6 else 6))) else (bif Nat.blt n 140 then (bif Nat.blt n 138 then 6 else (bif Nat.blt n 139 then 6 else 6)) else (bif Nat.blt n 142 then (bif Nat.blt n 141 then 6 else 6) else (bif Nat.blt n 143 then 6 else 6)))) else (bif Nat.blt n 150 then (bif Nat.blt n 147 then (bif Nat.blt n 145 then 6 else (bif Nat.blt n 146 then 6 else 6)) else (bif Nat.blt n 148 then 6 else (bif Nat.blt n 149 then 6 else 6))) else (bif Nat.blt n 153 then (bif Nat.blt n 151 then 6 else (bif Nat.blt n 152 then 6 else 6)) else (bif Nat.blt n 155 then (bif Nat.blt n 154 then 6 else 6) else (bif Nat.blt n 156 then 6 else 6)))))) else (bif Nat.blt n 183 then (bif Nat.blt n 170 then (bif Nat.blt n 163 then (bif Nat.blt n 160 then (bif Nat.blt n 158 then 6 else (bif Nat.blt n 159 then 6 else 6)) else (bif Nat.blt n 161 then 6 else (bif Nat.blt n 162 then 6 else 6))) else (bif Nat.blt n 166 then (bif Nat.blt n 164 then 6 else (bif Nat.blt n 165 then 6 else 6)) else (bif Nat.blt n 168 then (bif Nat.blt n 167 then 6 else 6) else (bif Nat.blt n 169 then 6 else 6)))) else (bif Nat.blt n 176 then (bif Nat.blt n 173 then (bif Nat.blt n 171 then 6 else (bif Nat.blt n 172 then 6 else 6)) else (bif Nat.blt n 174 then 6 else (bif Nat.blt n 175 then 6 else 6))) else (bif Nat.blt n 179 then (bif Nat.blt n 177 then 6 else (bif Nat.blt n 178 then 6 else 6)) else (bif Nat.blt n 181 then (bif Nat.blt n 180 then 6 else 6) else (bif Nat.blt n 182 then 6 else 6))))) else (bif Nat.blt n 196 then (bif Nat.blt n 189 then (bif Nat.blt n 186 then (bif Nat.blt n 184 then 6 else (bif Nat.blt n 185 then 6 else 6)) else (bif Nat.blt n 187 then 6 else (bif Nat.blt n 188 then 6 else 6))) else (bif Nat.blt n 192 then (bif Nat.blt n 190 then 6 else (bif Nat.blt n 191 then 6 else 6)) else (bif Nat.blt n 194 then (bif Nat.blt n 193 then 6 else 6) else (bif Nat.blt n 195 then 6 else 6)))) else (bif Nat.blt n 203 then (bif Nat.blt n 199 then (bif Nat.blt n 197 then 6 else (bif Nat.blt n 198 then 6 else 6)) else (bif Nat.blt n 201 then (bif Nat.blt n 200 then 6 else 6) else (bif Nat.blt n 202 then 6 else 6))) else (bif Nat.blt n 206 then (bif Nat.blt n 204 then 6 else (bif Nat.blt n 205 then 6 else 6)) else (bif Nat.blt n 208 then (bif Nat.blt n 207 then 6 else 6) else (bif Nat.blt n 209 then 99 else 99))))))))
def mm_in (n : Nat) : Bool := (bif Nat.blt n 105 then (bif Nat.blt n 52 then (bif Nat.blt n 26 then (bif Nat.blt n 13 then (bif Nat.blt n 6 then (bif Nat.blt n 3 then (bif Nat.blt n 1 then true else (bif Nat.blt n 2 then false else false)) else (bif Nat.blt n 4 then false else (bif Nat.blt n 5 then false else false))) else (bif Nat.blt n 9 then (bif Nat.blt n 7 then false else (bif Nat.blt n 8 then true else false)) else (bif Nat.blt n 11 then (bif Nat.blt n 10 then false else false) else (bif Nat.blt n 12 then false else false)))) else (bif Nat.blt n 19 then (bif Nat.blt n 16 then (bif Nat.blt n 14 then false else (bif Nat.blt n 15 then false else false)) else (bif Nat.blt n 17 then false else (bif Nat.blt n 18 then false else false))) else (bif Nat.blt n 22 then (bif Nat.blt n 20 then false else (bif Nat.blt n 21 then false else false)) else (bif Nat.blt n 24 then (bif Nat.blt n 23 then false else false) else (bif Nat.blt n 25 then false else false))))) else (bif Nat.blt n 39 then (bif Nat.blt n 32 then (bif Nat.blt n 29 then (bif Nat.blt n 27 then true else (bif Nat.blt n 28 then false else false)) else (bif Nat.blt n 30 then false else (bif Nat.blt n 31 then false else false))) else (bif Nat.blt n 35 then (bif Nat.blt n 33 then false else (bif Nat.blt n 34 then false else true)) else (bif Nat.blt n 37 then (bif Nat.blt n 36 then false else false) else (bif Nat.blt n 38 then false else false)))) else (bif Nat.blt n 45 then (bif Nat.blt n 42 then (bif Nat.blt n 40 then false else (bif Nat.blt n 41 then false else false)) else (bif Nat.blt n 43 then false else (bif Nat.blt n 44 then false else true))) else (bif Nat.blt n 48 then (bif Nat.blt n 46 then false else (bif Nat.blt n 47 then false else false)) else (bif Nat.blt n 50 then (bif Nat.blt n 49 then false else false) else (bif Nat.blt n 51 then false else true)))))) else (bif Nat.blt n 78 then (bif Nat.blt n 65 then (bif Nat.blt n 58 then (bif Nat.blt n 55 then (bif Nat.blt n 53 then false else (bif Nat.blt n 54 then false else false)) else (bif Nat.blt n 56 then false else (bif Nat.blt n 57 then false else false))) else (bif Nat.blt n 61 then (bif Nat.blt n 59 then false else (bif Nat.blt n 60 then false else false)) else (bif Nat.blt n 63 then (bif Nat.blt n 62 then false else false) else (bif Nat.blt n 64 then false else false)))) else (bif Nat.blt n 71 then (bif Nat.blt n 68 then (bif Nat.blt n 66 then false else (bif Nat.blt n 67 then false else false)) else (bif Nat.blt n 69 then false else (bif Nat.blt n 70 then false else false))) else (bif Nat.blt n 74 then (bif Nat.blt n 72 then false else (bif Nat.blt n 73 then false else false)) else (bif Nat.blt n 76 then (bif Nat.blt n 75 then false else false) else (bif Nat.blt n 77 then false else false))))) else (bif Nat.blt n 91 then (bif Nat.blt n 84 then (bif Nat.blt n 81 then (bif Nat.blt n 79 then false else (bif Nat.blt n 80 then false else false)) else (bif Nat.blt n 82 then false else (bif Nat.blt n 83 then false else false))) else (bif Nat.blt n 87 then (bif Nat.blt n 85 then false else (bif Nat.blt n 86 then false else false)) else (bif Nat.blt n 89 then (bif Nat.blt n 88 then false else false) else (bif Nat.blt n 90 then false else false)))) else (bif Nat.blt n 98 then (bif Nat.blt n 94 then (bif Nat.blt n 92 then false else (bif Nat.blt n 93 then false else false)) else (bif Nat.blt n 96 then (bif Nat.blt n 95 then false else false) else (bif Nat.blt n 97 then false else false))) else (bif Nat.blt n 101 then (bif Nat.blt n 99 then false else (bif Nat.blt n 100 then false else false)) else (bif Nat.blt n 103 then (bif Nat.blt n 102 then false else false) else (bif Nat.blt n 104 then false else false))))))) else (bif Nat.blt n 157 then (bif Nat.blt n 131 then (bif Nat.blt n 118 then (bif Nat.blt n 111 then (bif Nat.blt n 108 then (bif Nat.blt n 106 then false else (bif Nat.blt n 107 then false else false)) else (bif Nat.blt n 109 then false else (bif Nat.blt n 110 then false else false))) else (bif Nat.blt n 114 then (bif Nat.blt n 112 then false else (bif Nat.blt n 113 then false else false)) else (bif Nat.blt n 116 then (bif Nat.blt n 115 then false else false) else (bif Nat.blt n 117 then true else false)))) else (bif Nat.blt n 124 then (bif Nat.blt n 121 then (bif Nat.blt n 119 then false else (bif Nat.blt n 120 then false else false)) else (bif Nat.blt n 122 then false else (bif Nat.blt n 123 then false else false))) else (bif Nat.blt n 127 then (bif Nat.blt n 125 then false else (bif Nat.blt n 126 then false else false)) else (bif Nat.blt n 129 then (bif Nat.blt n 128 then false else false) else (bif Nat.blt n 130 then false else false))))) else (bif Nat.blt n 144 then (bif Nat.blt n 137 then (bif Nat.blt n 134 then (bif Nat.blt n 132 then false else (bif Nat.blt n 133 then false else false)) else (bif Nat.blt n 135 then false else (bif Nat.blt n 136 then false else false))) else (bif Nat.blt n 140 then (bif Nat.blt n 138 then false else (bif Nat.blt n 139 then false else false)) else (bif Nat.blt n 142 then (bif Nat.blt n 141 then false else false) else (bif Nat.blt n 143 then false else false)))) else (bif Nat.blt n 150 then (bif Nat.blt n 147 then (bif Nat.blt n 145 then false else (bif Nat.blt n 146 then false else false)) else (bif Nat.blt n 148 then false else (bif Nat.blt n 149 then false else false))) else (bif Nat.blt n 153 then (bif Nat.blt n 151 then false else (bif Nat.blt n 152 then false else false)) else (bif Nat.blt n 155 then (bif Nat.blt n 154 then false else false) else (bif Nat.blt n 156 then false else false)))))) else (bif Nat.blt n 183 then (bif Nat.blt n 170 then (bif Nat.blt n 163 then (bif Nat.blt n 160 then (bif Nat.blt n 158 then false else (bif Nat.blt n 159 then false else false)) else (bif Nat.blt n 161 then false else (bif Nat.blt n 162 then false else false))) else (bif Nat.blt n 166 then (bif Nat.blt n 164 then false else (bif Nat.blt n 165 then false else false)) else (bif Nat.blt n 168 then (bif Nat.blt n 167 then false else false) else (bif Nat.blt n 169 then false else false)))) else (bif Nat.blt n 176 then (bif Nat.blt n 173 then (bif Nat.blt n 171 then false else (bif Nat.blt n 172 then false else false)) else (bif Nat.blt n 174 then false else (bif Nat.blt n 175 then false else false))) else (bif Nat.blt n 179 then (bif Nat.blt n 177 then false else (bif Nat.blt n 178 then false else false)) else (bif Nat.blt n 181 then (bif Nat.blt n 180 then false else false) else (bif Nat.blt n 182 then false else false))))) else (bif Nat.blt n 196 then (bif Nat.blt n 189 then (bif Nat.blt n 186 then (bif Nat.blt n 184 then false else (bif Nat.blt n 185 then false else false)) else (bif Nat.blt n 187 then false else (bif Nat.blt n 188 then false else false))) else (bif Nat.blt n 192 then (bif Nat.blt n 190 then false else (bif Nat.blt n 191 then false else false)) else (bif Nat.blt n 194 then (bif Nat.blt n 193 then false else false) else (bif Nat.blt n 195 then false else false)))) else (bif Nat.blt n 203 then (bif Nat.blt n 199 then (bif Nat.blt n 197 then false else (bif Nat.blt n 198 then false else false)) else (bif Nat.blt n 201 then (bif Nat.blt n 200 then false else false) else (bif Nat.blt n 202 then false else false))) else (bif Nat.blt n 206 then (bif Nat.blt n 204 then false else (bif Nat.blt n 205 then false else false)) else (bif Nat.blt n 208 then (bif Nat.blt n 207 then false else false) else (bif Nat.blt n 209 then false else false))))))))
abbrev k_X0_init : Nat := 0
abbrev k_X0_seat : Nat := 1
abbrev k_X0_forgetCitation : Nat := 2
abbrev k_X0_isMovedByOneMore : Nat := 3
abbrev k_X0_isToStand : Nat := 4
abbrev k_X0_clash : Nat := 5
abbrev k_X0_mattersTo : Nat := 6
abbrev k_X1_init : Nat := 7
abbrev k_X1_has : Nat := 8
abbrev k_X1_everyRuling : Nat := 9
abbrev k_X1_canBeCited : Nat := 10
abbrev k_X1_citable : Nat := 11
abbrev k_X1_add : Nat := 12
abbrev k_X1_cutTo : Nat := 13
abbrev k_X1_become : Nat := 14
abbrev k_X1_detail : Nat := 15
abbrev k_X1_citations : Nat := 16
abbrev k_X1_dependsOn : Nat := 17
abbrev k_X1_ofDay : Nat := 18
abbrev k_X1_othersOfItsDay : Nat := 19
abbrev k_X1_laterThan : Nat := 20
abbrev k_X1_countOf : Nat := 21
abbrev k_X1_likeness : Nat := 22
abbrev k_X1_decide : Nat := 23
abbrev k_X1_verdictsBy : Nat := 24
abbrev k_X1_agrees : Nat := 25
abbrev k_X2_init : Nat := 26
abbrev k_X2_read : Nat := 27
abbrev k_X2_skipBlanks : Nat := 28
abbrev k_X2_readItem : Nat := 29
abbrev k_X2_sign : Nat := 30
abbrev k_X2_letter : Nat := 31
abbrev k_X2_figure : Nat := 32
abbrev k_X2_readMarks : Nat := 33
abbrev k_X3_init : Nat := 34
abbrev k_X3_isMissing : Nat := 35
abbrev k_X3_has : Nat := 36
abbrev k_X3_hasRun : Nat := 37
abbrev k_X3_value : Nat := 38
abbrev k_X3_swap : Nat := 39
abbrev k_X3_renew : Nat := 40
abbrev k_X3_remove : Nat := 41
abbrev k_X3_sum : Nat := 42
abbrev k_X3_digestFrom : Nat := 43
abbrev k_X4_init : Nat := 44
abbrev k_X4_find : Nat := 45
abbrev k_X4_first : Nat := 46
abbrev k_X4_surelyStanding : Nat := 47
abbrev k_X4_surelyFalling : Nat := 48
abbrev k_X4_waysWith : Nat := 49
abbrev k_X4_meets : Nat := 50
abbrev k_X5_init : Nat := 51
abbrev k_X5_row : Nat := 52
abbrev k_X5_lay : Nat := 53
abbrev k_X5_at : Nat := 54
abbrev k_X5_tear : Nat := 55
abbrev k_X5_copy : Nat := 56
abbrev k_X5_mean : Nat := 57
abbrev k_X5_text : Nat := 58
abbrev k_X5_put : Nat := 59
abbrev k_X5_fault : Nat := 60
abbrev k_X5_court : Nat := 61
abbrev k_X5_ruling : Nat := 62
abbrev k_X5_mark : Nat := 63
abbrev k_X5_reverse : Nat := 64
abbrev k_X5_marks : Nat := 65
abbrev k_X5_file : Nat := 66
abbrev k_X5_strike : Nat := 67
abbrev k_X5_keep : Nat := 68
abbrev k_X5_on : Nat := 69
abbrev k_X5_due : Nat := 70
abbrev k_X5_ways : Nat := 71
abbrev k_X5_nth : Nat := 72
abbrev k_X5_sure : Nat := 73
abbrev k_X5_odds : Nat := 74
abbrev k_X5_together : Nat := 75
abbrev k_X5_till : Nat := 76
abbrev k_X5_flips : Nat := 77
abbrev k_X5_jam : Nat := 78
abbrev k_X5_fell : Nat := 79
abbrev k_X5_guard : Nat := 80
abbrev k_X5_settle : Nat := 81
abbrev k_X5_matter : Nat := 82
abbrev k_X5_judge : Nat := 83
abbrev k_X5_like : Nat := 84
abbrev k_X5_verdict : Nat := 85
abbrev k_X5_surely : Nat := 86
abbrev k_X5_freed : Nat := 87
abbrev k_X5_code : Nat := 88
abbrev k_X5_kinds : Nat := 89
abbrev k_X5_forged : Nat := 90
abbrev k_X5_torn : Nat := 91
abbrev k_X5_lots : Nat := 92
abbrev k_X5_asked : Nat := 93
abbrev k_X5_upper : Nat := 94
abbrev k_X5_lower : Nat := 95
abbrev k_X5_count : Nat := 96
abbrev k_X5_finding : Nat := 97
abbrev k_X5_findings : Nat := 98
abbrev k_X5_digest : Nat := 99
abbrev k_X5_within : Nat := 100
abbrev k_X5_holds : Nat := 101
abbrev k_X5_isOfKind : Nat := 102
abbrev k_X5_greatestDivisor : Nat := 103
abbrev k_X5_refuse : Nat := 104
abbrev k_X5_tell : Nat := 105
abbrev k_X5_renewed : Nat := 106
abbrev k_X5_refusalOfPlace : Nat := 107
abbrev k_X5_isKept : Nat := 108
abbrev k_X5_findWays : Nat := 109
abbrev k_X5_fewest : Nat := 110
abbrev k_X5_canReach : Nat := 111
abbrev k_X5_changedWithout : Nat := 112
abbrev k_X5_fileByLot : Nat := 113
abbrev k_X5_countOf : Nat := 114
abbrev k_X5_there : Nat := 115
abbrev k_X6_init : Nat := 116
abbrev k_X6_in : Nat := 117
abbrev k_X6_has : Nat := 118
abbrev k_X6_ones : Nat := 119
abbrev k_X6_finds : Nat := 120
abbrev k_X6_tells : Nat := 121
abbrev k_X6_isRow : Nat := 122
abbrev k_X6_isText : Nat := 123
abbrev k_X6_row : Nat := 124
abbrev k_X6_lay : Nat := 125
abbrev k_X6_at : Nat := 126
abbrev k_X6_tear : Nat := 127
abbrev k_X6_isPart : Nat := 128
abbrev k_X6_copy : Nat := 129
abbrev k_X6_mean : Nat := 130
abbrev k_X6_text : Nat := 131
abbrev k_X6_put : Nat := 132
abbrev k_X6_byteAt : Nat := 133
abbrev k_X6_kindOf : Nat := 134
abbrev k_X6_figure : Nat := 135
abbrev k_X6_faults : Nat := 136
abbrev k_X6_readsCitation : Nat := 137
abbrev k_X6_readsItem : Nat := 138
abbrev k_X6_reads : Nat := 139
abbrev k_X6_fault : Nat := 140
abbrev k_X6_adds : Nat := 141
abbrev k_X6_court : Nat := 142
abbrev k_X6_isRuling : Nat := 143
abbrev k_X6_isSet : Nat := 144
abbrev k_X6_citing : Nat := 145
abbrev k_X6_told : Nat := 146
abbrev k_X6_ruling : Nat := 147
abbrev k_X6_isOf : Nat := 148
abbrev k_X6_depends : Nat := 149
abbrev k_X6_ofItsDay : Nat := 150
abbrev k_X6_mark : Nat := 151
abbrev k_X6_reverse : Nat := 152
abbrev k_X6_marks : Nat := 153
abbrev k_X6_file : Nat := 154
abbrev k_X6_strike : Nat := 155
abbrev k_X6_keep : Nat := 156
abbrev k_X6_on : Nat := 157
abbrev k_X6_all : Nat := 158
abbrev k_X6_isDue : Nat := 159
abbrev k_X6_dueBy : Nat := 160
abbrev k_X6_isWay : Nat := 161
abbrev k_X6_due : Nat := 162
abbrev k_X6_wayMany : Nat := 163
abbrev k_X6_firstWay : Nat := 164
abbrev k_X6_standsIn : Nat := 165
abbrev k_X6_ways : Nat := 166
abbrev k_X6_nth : Nat := 167
abbrev k_X6_findsSure : Nat := 168
abbrev k_X6_sure : Nat := 169
abbrev k_X6_odds : Nat := 170
abbrev k_X6_together : Nat := 171
abbrev k_X6_upTo : Nat := 172
abbrev k_X6_till : Nat := 173
abbrev k_X6_flips : Nat := 174
abbrev k_X6_jam : Nat := 175
abbrev k_X6_isReached : Nat := 176
abbrev k_X6_power : Nat := 177
abbrev k_X6_strikes : Nat := 178
abbrev k_X6_files : Nat := 179
abbrev k_X6_fell : Nat := 180
abbrev k_X6_guard : Nat := 181
abbrev k_X6_settle : Nat := 182
abbrev k_X6_otherwise : Nat := 183
abbrev k_X6_matter : Nat := 184
abbrev k_X6_judge : Nat := 185
abbrev k_X6_likeness : Nat := 186
abbrev k_X6_like : Nat := 187
abbrev k_X6_verdictBy : Nat := 188
abbrev k_X6_verdict : Nat := 189
abbrev k_X6_surely : Nat := 190
abbrev k_X6_freed : Nat := 191
abbrev k_X6_agrees : Nat := 192
abbrev k_X6_code : Nat := 193
abbrev k_X6_kinds : Nat := 194
abbrev k_X6_forged : Nat := 195
abbrev k_X6_torn : Nat := 196
abbrev k_X6_ahead : Nat := 197
abbrev k_X6_nthAhead : Nat := 198
abbrev k_X6_lots : Nat := 199
abbrev k_X6_asked : Nat := 200
abbrev k_X6_upper : Nat := 201
abbrev k_X6_lower : Nat := 202
abbrev k_X6_counted : Nat := 203
abbrev k_X6_count : Nat := 204
abbrev k_X6_finding : Nat := 205
abbrev k_X6_findings : Nat := 206
abbrev k_X6_digest : Nat := 207
abbrev k_J6_bitCount_0f7a4 : Nat := 208
abbrev k_L_law : Nat := 209
def mm_tg (n : Nat) : List (Int32 × Nat) := bif Nat.beq n 4 then [(1, 25), (2, 40), (3, 47), (4, 60), (5, 82)] else bif Nat.beq n 15 then [(0, 2), (1, 7), (2, 12), (3, 17), (4, 22), (5, 27)] else bif Nat.beq n 63 then [(1, 27), (2, 32), (3, 38), (4, 44)] else bif Nat.beq n 114 then [(5, 2), (6, 6), (7, 10)] else bif Nat.beq n 159 then [(1, 101), (2, 109), (3, 116), (4, 124), (5, 134)] else bif Nat.beq n 209 then [(0, 22), (1, 49), (2, 86), (3, 113), (4, 130), (5, 187), (6, 204), (7, 231), (8, 268), (9, 285), (10, 302), (11, 329), (12, 356), (13, 383), (14, 410), (15, 467), (16, 484), (17, 501), (18, 518), (19, 535), (20, 542), (21, 559), (22, 566), (23, 583), (24, 600), (25, 617), (26, 634), (27, 641), (28, 668), (29, 695), (30, 712), (31, 729), (32, 736), (33, 763), (34, 790), (35, 807), (36, 824), (37, 831), (38, 858), (39, 875), (40, 902), (41, 929), (42, 936), (43, 944), (44, 952), (45, 969), (46, 976), (47, 993)] else []
def mm_cnt : Nat := 210
end
section
/-! reading forms: each with its inversion and its monotony -/
def mm_get {α : Type} : List α → Nat → Option α
  | [], _ => none
  | a :: _, 0 => some a
  | _ :: l, k + 1 => mm_get l k
theorem mm_get_eq {α : Type} : ∀ (l : List α) (k : Nat), mm_get l k = l[k]?
  | [], k => by simp [mm_get]
  | a :: l, 0 => by simp [mm_get]
  | a :: l, k + 1 => by simp [mm_get, mm_get_eq l k]
theorem mm_ld_inv : ∀ {l : List Value} {k : Nat} {K : Value → Prop}, mm_ld l k K → ∃ v, l[k]? = some v ∧ K v
  | [], _, _, h => h.elim
  | v :: _, 0, _, h => ⟨v, rfl, h⟩
  | _ :: l, k + 1, _, h => by
    obtain ⟨v, h1, h2⟩ := mm_ld_inv (l := l) (k := k) h
    exact ⟨v, by simpa using h1, h2⟩
theorem mm_ld_of : ∀ {l : List Value} {k : Nat} {v : Value} {K : Value → Prop}, l[k]? = some v → K v → mm_ld l k K
  | [], _, _, _, h, _ => by simp at h
  | a :: _, 0, v, K, h, hk => by
    have e : a = v := by simpa using h
    subst e
    exact hk
  | _ :: l, k + 1, v, _, h, hk => mm_ld_of (l := l) (k := k) (v := v) (by simpa using h) hk
theorem mm_set_inv : ∀ {l : List Value} {k : Nat} {v : Value} {K : List Value → Prop}, mm_set l k v K → k < l.length ∧ K (l.set k v)
  | [], _, _, _, h => h.elim
  | _ :: l, 0, _, _, h => ⟨by simp, h⟩
  | a :: l, k + 1, v, K, h => by
    obtain ⟨h1, h2⟩ := mm_set_inv (l := l) (k := k) (v := v) (K := fun l' => K (a :: l')) h
    exact ⟨by simpa using h1, by simpa using h2⟩
theorem mm_set_of : ∀ {l : List Value} {k : Nat} {v : Value} {K : List Value → Prop}, k < l.length → K (l.set k v) → mm_set l k v K
  | [], _, _, _, h, _ => by simp at h
  | _ :: l, 0, _, _, _, h => h
  | a :: l, k + 1, v, K, h, hk => mm_set_of (l := l) (k := k) (v := v) (K := fun l' => K (a :: l')) (by simpa using h) (by simpa using hk)
theorem mm_st_inv : ∀ {l : List Value} {k : Nat} {v : Value} {K : List Value → Prop}, mm_st l k v K → k < l.length ∧ K (l.set k v) ∧ ∀ j x, j + 1 = k → l[j]? ≠ some (.long x)
  | [], _, _, _, h => h.elim
  | _ :: l, 0, _, _, h => ⟨by simp, h, fun j x e => by omega⟩
  | a :: l, 1, v, K, h => by
    cases a <;> first
      | exact h.elim
      | (obtain ⟨h1, h2, h3⟩ := mm_st_inv (l := l) (k := 0) (v := v) h
         refine ⟨by simpa using h1, by simpa using h2, fun j x e => ?_⟩
         have hj : j = 0 := by omega
         subst hj
         simp)
  | a :: l, k + 2, v, K, h => by
    have h' : mm_st l (k + 1) v (fun l' => K (a :: l')) := by
      cases a <;> exact h
    obtain ⟨h1, h2, h3⟩ := mm_st_inv (l := l) (k := k + 1) (v := v) h'
    refine ⟨by simp; omega, by simpa using h2, fun j x e => ?_⟩
    cases j with
    | zero => omega
    | succ j => simpa using h3 j x (by omega)
theorem mm_st_of : ∀ {l : List Value} {k : Nat} {v : Value} {K : List Value → Prop}, k < l.length → K (l.set k v) → (∀ j x, j + 1 = k → l[j]? ≠ some (.long x)) → mm_st l k v K
  | [], _, _, _, h, _, _ => by simp at h
  | _ :: l, 0, _, _, _, h, _ => h
  | a :: l, 1, v, K, h, hk, hn => by
    have hr : mm_st l 0 v (fun l' => K (a :: l')) := mm_st_of (by simpa using h) (by simpa using hk) (fun j x e => by omega)
    cases a <;> first
      | exact hr
      | exact absurd rfl (hn 0 _ rfl)
  | a :: l, k + 2, v, K, h, hk, hn => by
    have hr : mm_st l (k + 1) v (fun l' => K (a :: l')) := mm_st_of (by simp at h; omega) (by simpa using hk) (fun j x e => by simpa using hn (j + 1) x (by omega))
    cases a <;> exact hr
theorem mm_st2_inv : ∀ {l : List Value} {k : Nat} {v : Value} {K : List Value → Prop}, mm_st2 l k v K → k + 1 < l.length ∧ K ((l.set k v).set (k + 1) .null) ∧ ∀ j x, j + 1 = k → l[j]? ≠ some (.long x)
  | [], _, _, _, h => h.elim
  | [_], k, _, _, h => by cases k <;> exact h.elim
  | _ :: _ :: l, 0, _, _, h => ⟨by simp, h, fun j x e => by omega⟩
  | a :: b :: l, 1, v, K, h => by
    cases a <;> first
      | exact h.elim
      | (obtain ⟨h1, h2, h3⟩ := mm_st2_inv (l := b :: l) (k := 0) (v := v) h
         refine ⟨by simpa using h1, by simpa using h2, fun j x e => ?_⟩
         have hj : j = 0 := by omega
         subst hj
         simp)
  | a :: b :: l, k + 2, v, K, h => by
    have h' : mm_st2 (b :: l) (k + 1) v (fun l' => K (a :: l')) := by
      cases a <;> exact h
    obtain ⟨h1, h2, h3⟩ := mm_st2_inv (l := b :: l) (k := k + 1) (v := v) h'
    refine ⟨by simp at h1 ⊢; omega, by simpa using h2, fun j x e => ?_⟩
    cases j with
    | zero => omega
    | succ j => simpa using h3 j x (by omega)
theorem mm_st2_of : ∀ {l : List Value} {k : Nat} {v : Value} {K : List Value → Prop}, k + 1 < l.length → K ((l.set k v).set (k + 1) .null) → (∀ j x, j + 1 = k → l[j]? ≠ some (.long x)) → mm_st2 l k v K
  | [], _, _, _, h, _, _ => by simp at h
  | [_], k, _, _, h, _, _ => by simp at h
  | _ :: _ :: l, 0, _, _, _, h, _ => h
  | a :: b :: l, 1, v, K, h, hk, hn => by
    have hr : mm_st2 (b :: l) 0 v (fun l' => K (a :: l')) := mm_st2_of (by simpa using h) (by simpa using hk) (fun j x e => by omega)
    cases a <;> first
      | exact hr
      | exact absurd rfl (hn 0 _ rfl)
  | a :: b :: l, k + 2, v, K, h, hk, hn => by
    have hr : mm_st2 (b :: l) (k + 1) v (fun l' => K (a :: l')) := mm_st2_of (by simp at h ⊢; omega) (by simpa using hk) (fun j x e => by simpa using hn (j + 1) x (by omega))
    cases a <;> exact hr
theorem mm_pop_inv : ∀ {n : Nat} {st acc : List Value} {K : List Value → List Value → Prop}, mm_pop n st acc K → ∃ as rest, as.length = n ∧ st = as.reverse ++ rest ∧ K (as ++ acc) rest
  | 0, st, acc, _, h => ⟨[], st, rfl, rfl, h⟩
  | _ + 1, [], _, _, h => h.elim
  | n + 1, v :: st, acc, K, h => by
    obtain ⟨as, rest, h1, h2, h3⟩ := mm_pop_inv (n := n) (st := st) (acc := v :: acc) h
    exact ⟨as ++ [v], rest, by simp [h1], by simp [h2], by simpa using h3⟩
theorem mm_pop_of : ∀ {n : Nat} {as acc rest : List Value} {K : List Value → List Value → Prop}, as.length = n → K (as ++ acc) rest → mm_pop n (as.reverse ++ rest) acc K
  | 0, as, acc, rest, K, h, hk => by
    have e : as = [] := List.length_eq_zero_iff.mp h
    subst e
    exact hk
  | n + 1, as, acc, rest, K, h, hk => by
    rcases List.eq_nil_or_concat as with e | ⟨bs, v, e⟩
    · subst e
      simp at h
    · subst e
      have hr := mm_pop_of (n := n) (as := bs) (acc := v :: acc) (rest := rest) (K := K) (by simpa using h) (by simpa using hk)
      simpa [mm_pop] using hr
theorem mm_pop_mono {n : Nat} {st acc : List Value} {K K' : List Value → List Value → Prop} (hK : ∀ a b, K a b → K' a b) (h : mm_pop n st acc K) : mm_pop n st acc K' := by
  obtain ⟨as, rest, h1, h2, h3⟩ := mm_pop_inv h
  subst h2
  exact mm_pop_of h1 (hK _ _ h3)

def mm_ldI (l : List Value) (k : Nat) (K : Int32 → Prop) : Prop := mm_ld l k (fun v => match v with | .int x => K x | _ => False)
theorem mm_ldI_inv {l : List Value} {k : Nat} {K : Int32 → Prop} (h : mm_ldI l k K) : ∃ x, l[k]? = some (.int x) ∧ K x := by
  obtain ⟨v, h1, h2⟩ := mm_ld_inv h
  cases v <;> first | exact h2.elim | exact ⟨_, h1, h2⟩
theorem mm_ldI_of {l : List Value} {k : Nat} {x : Int32} {K : Int32 → Prop} (h : l[k]? = some (.int x)) (hk : K x) : mm_ldI l k K := mm_ld_of (v := .int x) h hk
theorem mm_ldI_mono {l : List Value} {k : Nat} {K K' : Int32 → Prop} (hK : ∀ x, K x → K' x) (h : mm_ldI l k K) : mm_ldI l k K' := by
  obtain ⟨x, h1, h2⟩ := mm_ldI_inv h
  exact mm_ldI_of h1 (hK x h2)
def mm_ldL (l : List Value) (k : Nat) (K : Int64 → Prop) : Prop := mm_ld l k (fun v => match v with | .long x => K x | _ => False)
theorem mm_ldL_inv {l : List Value} {k : Nat} {K : Int64 → Prop} (h : mm_ldL l k K) : ∃ x, l[k]? = some (.long x) ∧ K x := by
  obtain ⟨v, h1, h2⟩ := mm_ld_inv h
  cases v <;> first | exact h2.elim | exact ⟨_, h1, h2⟩
theorem mm_ldL_of {l : List Value} {k : Nat} {x : Int64} {K : Int64 → Prop} (h : l[k]? = some (.long x)) (hk : K x) : mm_ldL l k K := mm_ld_of (v := .long x) h hk
theorem mm_ldL_mono {l : List Value} {k : Nat} {K K' : Int64 → Prop} (hK : ∀ x, K x → K' x) (h : mm_ldL l k K) : mm_ldL l k K' := by
  obtain ⟨x, h1, h2⟩ := mm_ldL_inv h
  exact mm_ldL_of h1 (hK x h2)
def mm_ldR (l : List Value) (k : Nat) (K : Nat → Prop) : Prop := mm_ld l k (fun v => match v with | .ref x => K x | _ => False)
theorem mm_ldR_inv {l : List Value} {k : Nat} {K : Nat → Prop} (h : mm_ldR l k K) : ∃ x, l[k]? = some (.ref x) ∧ K x := by
  obtain ⟨v, h1, h2⟩ := mm_ld_inv h
  cases v <;> first | exact h2.elim | exact ⟨_, h1, h2⟩
theorem mm_ldR_of {l : List Value} {k : Nat} {x : Nat} {K : Nat → Prop} (h : l[k]? = some (.ref x)) (hk : K x) : mm_ldR l k K := mm_ld_of (v := .ref x) h hk
theorem mm_ldR_mono {l : List Value} {k : Nat} {K K' : Nat → Prop} (hK : ∀ x, K x → K' x) (h : mm_ldR l k K) : mm_ldR l k K' := by
  obtain ⟨x, h1, h2⟩ := mm_ldR_inv h
  exact mm_ldR_of h1 (hK x h2)
def mm_i1 (st : List Value) (K : Int32 → List Value → Prop) : Prop := match st with | .int x0 :: r => K x0 r | _ => False
theorem mm_i1_inv {st : List Value} {K : Int32 → List Value → Prop} (h : mm_i1 st K) : ∃ x0 r, st = .int x0 :: r ∧ K x0 r := by
  unfold mm_i1 at h
  split at h
  · exact ⟨_, _, rfl, h⟩
  · exact h.elim
theorem mm_i1_mono {st : List Value} {K K' : Int32 → List Value → Prop} (hK : ∀ x0 r, K x0 r → K' x0 r) (h : mm_i1 st K) : mm_i1 st K' := by
  obtain ⟨x0, r, e, h⟩ := mm_i1_inv h
  subst e
  exact hK _ _ h
def mm_i2 (st : List Value) (K : Int32 → Int32 → List Value → Prop) : Prop := match st with | .int x0 :: .int x1 :: r => K x0 x1 r | _ => False
theorem mm_i2_inv {st : List Value} {K : Int32 → Int32 → List Value → Prop} (h : mm_i2 st K) : ∃ x0 x1 r, st = .int x0 :: .int x1 :: r ∧ K x0 x1 r := by
  unfold mm_i2 at h
  split at h
  · exact ⟨_, _, _, rfl, h⟩
  · exact h.elim
theorem mm_i2_mono {st : List Value} {K K' : Int32 → Int32 → List Value → Prop} (hK : ∀ x0 x1 r, K x0 x1 r → K' x0 x1 r) (h : mm_i2 st K) : mm_i2 st K' := by
  obtain ⟨x0, x1, r, e, h⟩ := mm_i2_inv h
  subst e
  exact hK _ _ _ h
def mm_i3 (st : List Value) (K : Int32 → Int32 → Int32 → List Value → Prop) : Prop := match st with | .int x0 :: .int x1 :: .int x2 :: r => K x0 x1 x2 r | _ => False
theorem mm_i3_inv {st : List Value} {K : Int32 → Int32 → Int32 → List Value → Prop} (h : mm_i3 st K) : ∃ x0 x1 x2 r, st = .int x0 :: .int x1 :: .int x2 :: r ∧ K x0 x1 x2 r := by
  unfold mm_i3 at h
  split at h
  · exact ⟨_, _, _, _, rfl, h⟩
  · exact h.elim
theorem mm_i3_mono {st : List Value} {K K' : Int32 → Int32 → Int32 → List Value → Prop} (hK : ∀ x0 x1 x2 r, K x0 x1 x2 r → K' x0 x1 x2 r) (h : mm_i3 st K) : mm_i3 st K' := by
  obtain ⟨x0, x1, x2, r, e, h⟩ := mm_i3_inv h
  subst e
  exact hK _ _ _ _ h
def mm_l1 (st : List Value) (K : Int64 → List Value → Prop) : Prop := match st with | .long x0 :: r => K x0 r | _ => False
theorem mm_l1_inv {st : List Value} {K : Int64 → List Value → Prop} (h : mm_l1 st K) : ∃ x0 r, st = .long x0 :: r ∧ K x0 r := by
  unfold mm_l1 at h
  split at h
  · exact ⟨_, _, rfl, h⟩
  · exact h.elim
theorem mm_l1_mono {st : List Value} {K K' : Int64 → List Value → Prop} (hK : ∀ x0 r, K x0 r → K' x0 r) (h : mm_l1 st K) : mm_l1 st K' := by
  obtain ⟨x0, r, e, h⟩ := mm_l1_inv h
  subst e
  exact hK _ _ h
def mm_l2 (st : List Value) (K : Int64 → Int64 → List Value → Prop) : Prop := match st with | .long x0 :: .long x1 :: r => K x0 x1 r | _ => False
theorem mm_l2_inv {st : List Value} {K : Int64 → Int64 → List Value → Prop} (h : mm_l2 st K) : ∃ x0 x1 r, st = .long x0 :: .long x1 :: r ∧ K x0 x1 r := by
  unfold mm_l2 at h
  split at h
  · exact ⟨_, _, _, rfl, h⟩
  · exact h.elim
theorem mm_l2_mono {st : List Value} {K K' : Int64 → Int64 → List Value → Prop} (hK : ∀ x0 x1 r, K x0 x1 r → K' x0 x1 r) (h : mm_l2 st K) : mm_l2 st K' := by
  obtain ⟨x0, x1, r, e, h⟩ := mm_l2_inv h
  subst e
  exact hK _ _ _ h
def mm_r1 (st : List Value) (K : Nat → List Value → Prop) : Prop := match st with | .ref x0 :: r => K x0 r | _ => False
theorem mm_r1_inv {st : List Value} {K : Nat → List Value → Prop} (h : mm_r1 st K) : ∃ x0 r, st = .ref x0 :: r ∧ K x0 r := by
  unfold mm_r1 at h
  split at h
  · exact ⟨_, _, rfl, h⟩
  · exact h.elim
theorem mm_r1_mono {st : List Value} {K K' : Nat → List Value → Prop} (hK : ∀ x0 r, K x0 r → K' x0 r) (h : mm_r1 st K) : mm_r1 st K' := by
  obtain ⟨x0, r, e, h⟩ := mm_r1_inv h
  subst e
  exact hK _ _ h
def mm_ir (st : List Value) (K : Int32 → Nat → List Value → Prop) : Prop := match st with | .int x0 :: .ref x1 :: r => K x0 x1 r | _ => False
theorem mm_ir_inv {st : List Value} {K : Int32 → Nat → List Value → Prop} (h : mm_ir st K) : ∃ x0 x1 r, st = .int x0 :: .ref x1 :: r ∧ K x0 x1 r := by
  unfold mm_ir at h
  split at h
  · exact ⟨_, _, _, rfl, h⟩
  · exact h.elim
theorem mm_ir_mono {st : List Value} {K K' : Int32 → Nat → List Value → Prop} (hK : ∀ x0 x1 r, K x0 x1 r → K' x0 x1 r) (h : mm_ir st K) : mm_ir st K' := by
  obtain ⟨x0, x1, r, e, h⟩ := mm_ir_inv h
  subst e
  exact hK _ _ _ h
def mm_iir (st : List Value) (K : Int32 → Int32 → Nat → List Value → Prop) : Prop := match st with | .int x0 :: .int x1 :: .ref x2 :: r => K x0 x1 x2 r | _ => False
theorem mm_iir_inv {st : List Value} {K : Int32 → Int32 → Nat → List Value → Prop} (h : mm_iir st K) : ∃ x0 x1 x2 r, st = .int x0 :: .int x1 :: .ref x2 :: r ∧ K x0 x1 x2 r := by
  unfold mm_iir at h
  split at h
  · exact ⟨_, _, _, _, rfl, h⟩
  · exact h.elim
theorem mm_iir_mono {st : List Value} {K K' : Int32 → Int32 → Nat → List Value → Prop} (hK : ∀ x0 x1 x2 r, K x0 x1 x2 r → K' x0 x1 x2 r) (h : mm_iir st K) : mm_iir st K' := by
  obtain ⟨x0, x1, x2, r, e, h⟩ := mm_iir_inv h
  subst e
  exact hK _ _ _ _ h
def mm_rir (st : List Value) (K : Nat → Int32 → Nat → List Value → Prop) : Prop := match st with | .ref x0 :: .int x1 :: .ref x2 :: r => K x0 x1 x2 r | _ => False
theorem mm_rir_inv {st : List Value} {K : Nat → Int32 → Nat → List Value → Prop} (h : mm_rir st K) : ∃ x0 x1 x2 r, st = .ref x0 :: .int x1 :: .ref x2 :: r ∧ K x0 x1 x2 r := by
  unfold mm_rir at h
  split at h
  · exact ⟨_, _, _, _, rfl, h⟩
  · exact h.elim
theorem mm_rir_mono {st : List Value} {K K' : Nat → Int32 → Nat → List Value → Prop} (hK : ∀ x0 x1 x2 r, K x0 x1 x2 r → K' x0 x1 x2 r) (h : mm_rir st K) : mm_rir st K' := by
  obtain ⟨x0, x1, x2, r, e, h⟩ := mm_rir_inv h
  subst e
  exact hK _ _ _ _ h
def mm_v1 (st : List Value) (K : Value → List Value → Prop) : Prop := match st with | x0 :: r => K x0 r | _ => False
theorem mm_v1_inv {st : List Value} {K : Value → List Value → Prop} (h : mm_v1 st K) : ∃ x0 r, st = x0 :: r ∧ K x0 r := by
  unfold mm_v1 at h
  split at h
  · exact ⟨_, _, rfl, h⟩
  · exact h.elim
theorem mm_v1_mono {st : List Value} {K K' : Value → List Value → Prop} (hK : ∀ x0 r, K x0 r → K' x0 r) (h : mm_v1 st K) : mm_v1 st K' := by
  obtain ⟨x0, r, e, h⟩ := mm_v1_inv h
  subst e
  exact hK _ _ h
def mm_v2 (st : List Value) (K : Value → Value → List Value → Prop) : Prop := match st with | x0 :: x1 :: r => K x0 x1 r | _ => False
theorem mm_v2_inv {st : List Value} {K : Value → Value → List Value → Prop} (h : mm_v2 st K) : ∃ x0 x1 r, st = x0 :: x1 :: r ∧ K x0 x1 r := by
  unfold mm_v2 at h
  split at h
  · exact ⟨_, _, _, rfl, h⟩
  · exact h.elim
theorem mm_v2_mono {st : List Value} {K K' : Value → Value → List Value → Prop} (hK : ∀ x0 x1 r, K x0 x1 r → K' x0 x1 r) (h : mm_v2 st K) : mm_v2 st K' := by
  obtain ⟨x0, x1, r, e, h⟩ := mm_v2_inv h
  subst e
  exact hK _ _ _ h
def mm_vr (st : List Value) (K : Value → Nat → List Value → Prop) : Prop := match st with | x0 :: .ref x1 :: r => K x0 x1 r | _ => False
theorem mm_vr_inv {st : List Value} {K : Value → Nat → List Value → Prop} (h : mm_vr st K) : ∃ x0 x1 r, st = x0 :: .ref x1 :: r ∧ K x0 x1 r := by
  unfold mm_vr at h
  split at h
  · exact ⟨_, _, _, rfl, h⟩
  · exact h.elim
theorem mm_vr_mono {st : List Value} {K K' : Value → Nat → List Value → Prop} (hK : ∀ x0 x1 r, K x0 x1 r → K' x0 x1 r) (h : mm_vr st K) : mm_vr st K' := by
  obtain ⟨x0, x1, r, e, h⟩ := mm_vr_inv h
  subst e
  exact hK _ _ _ h
def mm_iirir (st : List Value) (K : Int32 → Int32 → Nat → Int32 → Nat → List Value → Prop) : Prop := match st with | .int x0 :: .int x1 :: .ref x2 :: .int x3 :: .ref x4 :: r => K x0 x1 x2 x3 x4 r | _ => False
theorem mm_iirir_inv {st : List Value} {K : Int32 → Int32 → Nat → Int32 → Nat → List Value → Prop} (h : mm_iirir st K) : ∃ x0 x1 x2 x3 x4 r, st = .int x0 :: .int x1 :: .ref x2 :: .int x3 :: .ref x4 :: r ∧ K x0 x1 x2 x3 x4 r := by
  unfold mm_iirir at h
  split at h
  · exact ⟨_, _, _, _, _, _, rfl, h⟩
  · exact h.elim
theorem mm_iirir_mono {st : List Value} {K K' : Int32 → Int32 → Nat → Int32 → Nat → List Value → Prop} (hK : ∀ x0 x1 x2 x3 x4 r, K x0 x1 x2 x3 x4 r → K' x0 x1 x2 x3 x4 r) (h : mm_iirir st K) : mm_iirir st K' := by
  obtain ⟨x0, x1, x2, x3, x4, r, e, h⟩ := mm_iirir_inv h
  subst e
  exact hK _ _ _ _ _ _ h
def mm_obj (h : Nat → mm_C) (o ci : Nat) (K : List Value → Prop) : Prop := match h o with | .inl (c, fs) => (match Nat.beq c ci with | true => K fs | false => False) | _ => False
theorem mm_obj_inv {h : Nat → mm_C} {o ci : Nat} {K : List Value → Prop} (q : mm_obj h o ci K) : ∃ fs, h o = mO ci fs ∧ K fs := by
  unfold mm_obj at q
  split at q
  · rename_i c fs e
    split at q
    · rename_i e2
      have e3 : c = ci := Nat.eq_of_beq_eq_true e2
      subst e3
      exact ⟨fs, e, q⟩
    · exact q.elim
  · exact q.elim
theorem mm_obj_of {h : Nat → mm_C} {o ci : Nat} {fs : List Value} {K : List Value → Prop} (e : h o = mO ci fs) (q : K fs) : mm_obj h o ci K := by
  unfold mm_obj
  rw [e]
  show (match Nat.beq ci ci with | true => K fs | false => False)
  rw [Nat.beq_refl]
  exact q
theorem mm_obj_mono {h : Nat → mm_C} {o ci : Nat} {K K' : List Value → Prop} (hK : ∀ x, K x → K' x) (q : mm_obj h o ci K) : mm_obj h o ci K' := by
  obtain ⟨fs, e, q⟩ := mm_obj_inv q
  exact mm_obj_of e (hK _ q)
def mm_arr (h : Nat → mm_C) (o : Nat) (K : Nat → (Nat → Int32) → Prop) : Prop := match h o with | .inr (.inl (n, f)) => K n f | .inr (.inr (.inr (n, f))) => K n f | _ => False
theorem mm_arr_inv {h : Nat → mm_C} {o : Nat} {K : Nat → (Nat → Int32) → Prop} (q : mm_arr h o K) : ∃ n f, (h o = mI n f ∨ h o = mE n f) ∧ K n f := by
  unfold mm_arr at q
  split at q
  · rename_i n f e
    exact ⟨n, f, Or.inl e, q⟩
  · rename_i n f e
    exact ⟨n, f, Or.inr e, q⟩
  · exact q.elim
theorem mm_arr_of {h : Nat → mm_C} {o n : Nat} {f : Nat → Int32} {K : Nat → (Nat → Int32) → Prop} (e : h o = mI n f ∨ h o = mE n f) (q : K n f) : mm_arr h o K := by
  unfold mm_arr
  rcases e with e | e <;> rw [e] <;> exact q
theorem mm_arr_mono {h : Nat → mm_C} {o : Nat} {K K' : Nat → (Nat → Int32) → Prop} (hK : ∀ n f, K n f → K' n f) (q : mm_arr h o K) : mm_arr h o K' := by
  obtain ⟨n, f, e, q⟩ := mm_arr_inv q
  exact mm_arr_of e (hK _ _ q)
def mm_arw (h : Nat → mm_C) (o : Nat) (K : Nat → (Nat → Int32) → Prop) : Prop := match h o with | .inr (.inl (n, f)) => K n f | _ => False
theorem mm_arw_inv {h : Nat → mm_C} {o : Nat} {K : Nat → (Nat → Int32) → Prop} (q : mm_arw h o K) : ∃ n f, h o = mI n f ∧ K n f := by
  unfold mm_arw at q
  split at q
  · rename_i n f e
    exact ⟨n, f, e, q⟩
  · exact q.elim
theorem mm_arw_of {h : Nat → mm_C} {o n : Nat} {f : Nat → Int32} {K : Nat → (Nat → Int32) → Prop} (e : h o = mI n f) (q : K n f) : mm_arw h o K := by
  unfold mm_arw
  rw [e]
  exact q
theorem mm_arw_mono {h : Nat → mm_C} {o : Nat} {K K' : Nat → (Nat → Int32) → Prop} (hK : ∀ n f, K n f → K' n f) (q : mm_arw h o K) : mm_arw h o K' := by
  obtain ⟨n, f, e, q⟩ := mm_arw_inv q
  exact mm_arw_of e (hK _ _ q)
def mm_rar (h : Nat → mm_C) (o : Nat) (K : Nat → Nat → (Nat → Option Nat) → Prop) : Prop := match h o with | .inr (.inr (.inl (c, n, f))) => K c n f | _ => False
theorem mm_rar_inv {h : Nat → mm_C} {o : Nat} {K : Nat → Nat → (Nat → Option Nat) → Prop} (q : mm_rar h o K) : ∃ c n f, h o = mR c n f ∧ K c n f := by
  unfold mm_rar at q
  split at q
  · rename_i c n f e
    exact ⟨c, n, f, e, q⟩
  · exact q.elim
theorem mm_rar_of {h : Nat → mm_C} {o c n : Nat} {f : Nat → Option Nat} {K : Nat → Nat → (Nat → Option Nat) → Prop} (e : h o = mR c n f) (q : K c n f) : mm_rar h o K := by
  unfold mm_rar
  rw [e]
  exact q
theorem mm_rar_mono {h : Nat → mm_C} {o : Nat} {K K' : Nat → Nat → (Nat → Option Nat) → Prop} (hK : ∀ c n f, K c n f → K' c n f) (q : mm_rar h o K) : mm_rar h o K' := by
  obtain ⟨c, n, f, e, q⟩ := mm_rar_inv q
  exact mm_rar_of e (hK _ _ _ q)
def mm_alen (h : Nat → mm_C) (o : Nat) (K : Nat → Prop) : Prop := match h o with | .inr (.inl (n, _)) => K n | .inr (.inr (.inr (n, _))) => K n | .inr (.inr (.inl (_, n, _))) => K n | .inl _ => False
theorem mm_alen_mono {h : Nat → mm_C} {o : Nat} {K K' : Nat → Prop} (hK : ∀ n, K n → K' n) (q : mm_alen h o K) : mm_alen h o K' := by
  unfold mm_alen at q ⊢
  split at q <;> first | exact hK _ q | exact q.elim
def mm_sw (x : Int32) (K : Nat → Prop) (b : Nat) : List (Int32 × Nat) → Prop
  | [] => K b
  | (v, t) :: l => (x = v → K t) ∧ (¬ x = v → mm_sw x K b l)
theorem mm_sw_mono {x : Int32} {K K' : Nat → Prop} {b : Nat} (hK : ∀ t, K t → K' t) : ∀ {l : List (Int32 × Nat)}, mm_sw x K b l → mm_sw x K' b l
  | [], h => hK _ h
  | (_, _) :: _, h => ⟨fun e => hK _ (h.1 e), fun e => mm_sw_mono hK (h.2 e)⟩
def mm_b1 (b : Bool) (P : Prop) : Prop := match b with | true => P | false => False
theorem mm_b1_inv {b : Bool} {P : Prop} (h : mm_b1 b P) : b = true ∧ P := by cases b <;> first | exact h.elim | exact ⟨rfl, h⟩
theorem mm_b1_mono {b : Bool} {P P' : Prop} (hK : P → P') (h : mm_b1 b P) : mm_b1 b P' := by cases b <;> first | exact h.elim | exact hK h
def mm_bb (b : Bool) (P P' : Prop) : Prop := match b with | true => P | false => P'
theorem mm_bb_mono {b : Bool} {P P' R R' : Prop} (h1 : P → R) (h2 : P' → R') (h : mm_bb b P P') : mm_bb b R R' := by cases b <;> first | exact h2 h | exact h1 h
def mm_dd (d : Nat) (K : Nat → Prop) : Prop := match d with | 0 => False | k + 1 => K k
theorem mm_dd_inv {d : Nat} {K : Nat → Prop} (h : mm_dd d K) : ∃ k, d = k + 1 ∧ K k := by cases d <;> first | exact h.elim | exact ⟨_, rfl, h⟩
theorem mm_dd_mono {d : Nat} {K K' : Nat → Prop} (hK : ∀ k, K k → K' k) (h : mm_dd d K) : mm_dd d K' := by cases d <;> first | exact h.elim | exact hK _ h
/-- few things lie below a call's arguments -/
def mm_csum : List Value → Nat
  | [] => 0
  | v :: l => v.category + mm_csum l
theorem mm_csum_le : ∀ r : List Value, mm_csum r ≤ 2 * r.length
  | [] => Nat.le_refl 0
  | v :: l => by
    have h1 : v.category ≤ 2 := by cases v <;> simp [Value.category]
    have h2 := mm_csum_le l
    show v.category + mm_csum l ≤ 2 * (l.length + 1)
    omega
def mm_few (r : List Value) (P : Prop) : Prop := match r.drop 4 with | [] => P | _ :: _ => mm_b1 (Nat.ble (mm_csum r) 8) P
theorem mm_few_inv {r : List Value} {P : Prop} (h : mm_few r P) : mm_csum r ≤ 8 ∧ P := by
  unfold mm_few at h
  split at h
  · rename_i e
    have h1 : r.length ≤ 4 := by simpa using e
    have h2 := mm_csum_le r
    exact ⟨by omega, h⟩
  · obtain ⟨a, b⟩ := mm_b1_inv h
    exact ⟨Nat.le_of_ble_eq_true a, b⟩
theorem mm_few_mono {r : List Value} {P P' : Prop} (hK : P → P') (h : mm_few r P) : mm_few r P' := by
  revert h
  unfold mm_few
  cases r.drop 4 with
  | nil => exact hK
  | cons a l => exact mm_b1_mono hK
def mm_at (μ ip : Nat) : Option mm_N := match mm_get (mm_code μ) (ip / 32) with | some l => mm_get l (ip % 32) | none => none
def mm_call (E : mm_X) (d μ : Nat) (args : List Value) (h : mm_H) (K : mm_K) : Prop := E d μ 0 (mm_al μ) (mm_ent (mm_ml μ) args) [] h K
def mm_tk (al : Nat × Nat) (c s : Nat) (K : Nat × Nat → Prop) : Prop := match c, s with | 0, 0 => K al | c, s => c ≤ al.1 ∧ s ≤ al.2 ∧ K (al.1 - c, al.2 - s)
theorem mm_tk_inv {al : Nat × Nat} {c s : Nat} {K : Nat × Nat → Prop} (h : mm_tk al c s K) : c ≤ al.1 ∧ s ≤ al.2 ∧ K (al.1 - c, al.2 - s) := by
  cases c <;> cases s <;> first | exact h | exact ⟨Nat.zero_le _, Nat.zero_le _, h⟩
theorem mm_tk_mono {al : Nat × Nat} {c s : Nat} {K K' : Nat × Nat → Prop} (hK : ∀ a, K a → K' a) (h : mm_tk al c s K) : mm_tk al c s K' := by
  cases c <;> cases s <;> first | exact ⟨h.1, h.2.1, hK _ h.2.2⟩ | exact hK _ h
def mm_ret (rest : List Value) (K : List Value → mm_H → Prop) : mm_K := fun rv h' => match rv with | some v => K (v :: rest) h' | none => K rest h'
def mm_inv (X E : mm_X) (d μ nx : Nat) (al : Nat × Nat) (ls : List Value) (h : mm_H) (Q : mm_K) (μ' : Nat) (args rest : List Value) : Prop :=
  mm_few rest (mm_b1 (mm_akd args && Nat.ble (mm_ex args).length (mm_ml μ')) (mm_tk al (mm_al μ').1 (mm_al μ').2 (fun al' => mm_dd d (fun d' => mm_call E d' μ' args h (mm_ret rest (fun st h' => X d μ nx al' ls st h' Q))))))
def mm_cpc (n0 n1 : Nat) (sp dp n : Int32) : Prop := ¬ sp < 0 ∧ ¬ dp < 0 ∧ ¬ n < 0 ∧ sp.toNatClampNeg + n.toNatClampNeg ≤ n0 ∧ dp.toNatClampNeg + n.toNatClampNeg ≤ n1

theorem mm_inv_mono {X E Y F : mm_X} (hX : ∀ d μ ip al ls st h Q, X d μ ip al ls st h Q → Y d μ ip al ls st h Q) (hE : ∀ d μ ip al ls st h Q, E d μ ip al ls st h Q → F d μ ip al ls st h Q) (hF : ∀ d μ ip al ls st h Q Q', (∀ r h', Q r h' → Q' r h') → F d μ ip al ls st h Q → F d μ ip al ls st h Q')
    {d μ nx : Nat} {al : Nat × Nat} {ls : List Value} {h : mm_H} {Q : mm_K} {μ' : Nat} {args rest : List Value} : mm_inv X E d μ nx al ls h Q μ' args rest → mm_inv Y F d μ nx al ls h Q μ' args rest := by
  unfold mm_inv
  refine mm_few_mono (mm_b1_mono (mm_tk_mono (fun al' => mm_dd_mono (fun d' q => ?_))))
  refine hF _ _ _ _ _ _ _ _ _ ?_ (hE _ _ _ _ _ _ _ _ q)
  intro r h' z
  cases r <;> exact hX _ _ _ _ _ _ _ _ z
def mm_stepI (q : mm_N) (X E : mm_X) (d μ : Nat) (al : Nat × Nat) (ls st : List Value) (h : mm_H) (Q : mm_K) : Prop := match q with
  | (_, i, nx, a, b, cv, _) => match i with
    | .iload_n _ => (mm_ldI ls a (fun x => X d μ nx al ls (.int x :: st) h Q))
    | .iload _ => (mm_ldI ls a (fun x => X d μ nx al ls (.int x :: st) h Q))
    | .lload_n _ => (mm_ldL ls a (fun x => X d μ nx al ls (.long x :: st) h Q))
    | .lload _ => (mm_ldL ls a (fun x => X d μ nx al ls (.long x :: st) h Q))
    | .aload_n _ => (mm_ldR ls a (fun x => X d μ nx al ls (.ref x :: st) h Q))
    | .aload _ => (mm_ldR ls a (fun x => X d μ nx al ls (.ref x :: st) h Q))
    | .istore_n _ => (mm_i1 st (fun x r => mm_st ls a (.int x) (fun ls => X d μ nx al ls r h Q)))
    | .istore _ => (mm_i1 st (fun x r => mm_st ls a (.int x) (fun ls => X d μ nx al ls r h Q)))
    | .astore_n _ => (mm_r1 st (fun x r => mm_st ls a (.ref x) (fun ls => X d μ nx al ls r h Q)))
    | .astore _ => (mm_r1 st (fun x r => mm_st ls a (.ref x) (fun ls => X d μ nx al ls r h Q)))
    | .lstore_n _ => (mm_l1 st (fun x r => mm_st2 ls a (.long x) (fun ls => X d μ nx al ls r h Q)))
    | .lstore _ => (mm_l1 st (fun x r => mm_st2 ls a (.long x) (fun ls => X d μ nx al ls r h Q)))
    | .iinc _ _ => (mm_ldI ls a (fun x => match cv with | .int y => mm_st ls a (.int (x + y)) (fun ls => X d μ nx al ls st h Q) | _ => False))
    | .iconst _ => (X d μ nx al ls (cv :: st) h Q)
    | .bipush _ => (X d μ nx al ls (cv :: st) h Q)
    | .sipush _ => (X d μ nx al ls (cv :: st) h Q)
    | .ldc _ => (X d μ nx al ls (cv :: st) h Q)
    | .ldc_w _ => (X d μ nx al ls (cv :: st) h Q)
    | .lconst _ => (X d μ nx al ls (cv :: st) h Q)
    | .ldc2_w _ => (X d μ nx al ls (cv :: st) h Q)
    | .getstatic _ => (X d μ nx al ls (.ref 1 :: st) h Q)
    | .iadd => (mm_i2 st (fun x0 x1 r => X d μ nx al ls (.int (x1 + x0) :: r) h Q))
    | .isub => (mm_i2 st (fun x0 x1 r => X d μ nx al ls (.int (x1 - x0) :: r) h Q))
    | .imul => (mm_i2 st (fun x0 x1 r => X d μ nx al ls (.int (x1 * x0) :: r) h Q))
    | .iand => (mm_i2 st (fun x0 x1 r => X d μ nx al ls (.int (x1 &&& x0) :: r) h Q))
    | .ior => (mm_i2 st (fun x0 x1 r => X d μ nx al ls (.int (x1 ||| x0) :: r) h Q))
    | .ixor => (mm_i2 st (fun x0 x1 r => X d μ nx al ls (.int (x1 ^^^ x0) :: r) h Q))
    | .ishl => (mm_i2 st (fun x0 x1 r => X d μ nx al ls (.int (x1 <<< (x0 &&& 31)) :: r) h Q))
    | .ishr => (mm_i2 st (fun x0 x1 r => X d μ nx al ls (.int (x1 >>> (x0 &&& 31)) :: r) h Q))
    | .iushr => (mm_i2 st (fun x0 x1 r => X d μ nx al ls (.int ((x1.toUInt32 >>> (x0.toUInt32 &&& Int32.toUInt32 31)).toInt32) :: r) h Q))
    | .idiv => (mm_i2 st (fun x0 x1 r => ¬ x0 = 0 ∧ X d μ nx al ls (.int (x1 / x0) :: r) h Q))
    | .irem => (mm_i2 st (fun x0 x1 r => ¬ x0 = 0 ∧ X d μ nx al ls (.int (x1 - x1 / x0 * x0) :: r) h Q))
    | .ladd => (mm_l2 st (fun x0 x1 r => X d μ nx al ls (.long (x1 + x0) :: r) h Q))
    | .lmul => (mm_l2 st (fun x0 x1 r => X d μ nx al ls (.long (x1 * x0) :: r) h Q))
    | .ldiv => (mm_l2 st (fun x0 x1 r => ¬ x0 = 0 ∧ X d μ nx al ls (.long (x1 / x0) :: r) h Q))
    | .lrem => (mm_l2 st (fun x0 x1 r => ¬ x0 = 0 ∧ X d μ nx al ls (.long (x1 - x1 / x0 * x0) :: r) h Q))
    | .lcmp => (mm_l2 st (fun x0 x1 r => X d μ nx al ls (.int (lg_cmp x1 x0) :: r) h Q))
    | .ineg => (mm_i1 st (fun x r => X d μ nx al ls (.int (-x) :: r) h Q))
    | .i2l => (mm_i1 st (fun x r => X d μ nx al ls (.long x.toInt64 :: r) h Q))
    | .i2b => (mm_i1 st (fun x r => X d μ nx al ls (.int x.toInt8.toInt32 :: r) h Q))
    | .l2i => (mm_l1 st (fun x r => X d μ nx al ls (.int x.toInt32 :: r) h Q))
    | .dup => (mm_v1 st (fun x r => mm_b1 (Nat.beq x.category 1) (X d μ nx al ls (x :: x :: r) h Q)))
    | .pop => (mm_v1 st (fun x r => mm_b1 (Nat.beq x.category 1) (X d μ nx al ls r h Q)))
    | .dup2 => (mm_v2 st (fun x y r => mm_b1 (Nat.beq x.category 1 && Nat.beq y.category 1) (X d μ nx al ls (x :: y :: x :: y :: r) h Q)))
    | .ifCond .eq _ => (mm_i1 st (fun x r => (x = 0 → X d μ a al ls r h Q) ∧ (¬ x = 0 → X d μ nx al ls r h Q)))
    | .ifCond .ne _ => (mm_i1 st (fun x r => (¬ x = 0 → X d μ a al ls r h Q) ∧ (x = 0 → X d μ nx al ls r h Q)))
    | .ifCond .lt _ => (mm_i1 st (fun x r => (x < 0 → X d μ a al ls r h Q) ∧ (¬ x < 0 → X d μ nx al ls r h Q)))
    | .ifCond .ge _ => (mm_i1 st (fun x r => (0 ≤ x → X d μ a al ls r h Q) ∧ (¬ 0 ≤ x → X d μ nx al ls r h Q)))
    | .ifCond .gt _ => (mm_i1 st (fun x r => (0 < x → X d μ a al ls r h Q) ∧ (¬ 0 < x → X d μ nx al ls r h Q)))
    | .ifCond .le _ => (mm_i1 st (fun x r => (x ≤ 0 → X d μ a al ls r h Q) ∧ (¬ x ≤ 0 → X d μ nx al ls r h Q)))
    | .if_icmp .eq _ => (mm_i2 st (fun y x r => (x = y → X d μ a al ls r h Q) ∧ (¬ x = y → X d μ nx al ls r h Q)))
    | .if_icmp .ne _ => (mm_i2 st (fun y x r => (¬ x = y → X d μ a al ls r h Q) ∧ (x = y → X d μ nx al ls r h Q)))
    | .if_icmp .lt _ => (mm_i2 st (fun y x r => (x < y → X d μ a al ls r h Q) ∧ (¬ x < y → X d μ nx al ls r h Q)))
    | .if_icmp .ge _ => (mm_i2 st (fun y x r => (y ≤ x → X d μ a al ls r h Q) ∧ (¬ y ≤ x → X d μ nx al ls r h Q)))
    | .if_icmp .gt _ => (mm_i2 st (fun y x r => (y < x → X d μ a al ls r h Q) ∧ (¬ y < x → X d μ nx al ls r h Q)))
    | .if_icmp .le _ => (mm_i2 st (fun y x r => (x ≤ y → X d μ a al ls r h Q) ∧ (¬ x ≤ y → X d μ nx al ls r h Q)))
    | .goto _ => (X d μ a al ls st h Q)
    | .tableswitch _ _ _ _ => (mm_i1 st (fun x r => mm_sw x (fun t => X d μ t al ls r h Q) b (mm_tg μ)))
    | .newarray _ => (mm_i1 st (fun n r => h.1 < mm_full ∧ ¬ n < 0 ∧ 1 ≤ al.1 ∧ n.toNatClampNeg ≤ al.2 ∧ X d μ nx (al.1 - 1, al.2 - n.toNatClampNeg) ls (.ref h.1 :: r) (h.1 + 1, mU h.2 h.1 (mI n.toNatClampNeg (fun _ => 0))) Q))
    | .anewarray _ => (mm_i1 st (fun n r => h.1 < mm_full ∧ ¬ n < 0 ∧ 1 ≤ al.1 ∧ n.toNatClampNeg ≤ al.2 ∧ X d μ nx (al.1 - 1, al.2 - n.toNatClampNeg) ls (.ref h.1 :: r) (h.1 + 1, mU h.2 h.1 (mR a n.toNatClampNeg (fun _ => none))) Q))
    | .new _ => (h.1 < mm_full ∧ 1 ≤ al.1 ∧ (mm_def a).length ≤ al.2 ∧ X d μ nx (al.1 - 1, al.2 - (mm_def a).length) ls (.ref h.1 :: st) (h.1 + 1, mU h.2 h.1 (mO a (mm_def a))) Q)
    | .getfield _ => (mm_r1 st (fun o r => mm_obj h.2 o a (fun fs => mm_ld fs b (fun v => X d μ nx al ls (v :: r) h Q))))
    | .putfield _ => (mm_vr st (fun v o r => mm_obj h.2 o a (fun fs => mm_ld (mm_def a) b (fun w => mm_b1 (mm_fit w v) (mm_set fs b v (fun fs => X d μ nx al ls r (h.1, mU h.2 o (mO a fs)) Q))))))
    | .iaload => (mm_ir st (fun i o r => mm_arr h.2 o (fun n f => vp_in i n ∧ X d μ nx al ls (.int (f i.toNatClampNeg) :: r) h Q)))
    | .iastore => (mm_iir st (fun x i o r => mm_arw h.2 o (fun n f => vp_in i n ∧ X d μ nx al ls r (h.1, mU h.2 o (mI n (upd f i.toNatClampNeg x))) Q)))
    | .aaload => (mm_ir st (fun i o r => mm_rar h.2 o (fun _ n f => vp_in i n ∧ ∃ k, f i.toNatClampNeg = some k ∧ X d μ nx al ls (.ref k :: r) h Q)))
    | .aastore => (mm_rir st (fun v i o r => mm_rar h.2 o (fun c n f => vp_in i n ∧ mm_obj h.2 v c (fun _ => X d μ nx al ls r (h.1, mU h.2 o (mR c n (va_up f i.toNatClampNeg (some v)))) Q))))
    | .arraylength => (mm_r1 st (fun o r => mm_alen h.2 o (fun n => X d μ nx al ls (.int (Int32.ofNat n) :: r) h Q)))
    | .invokestatic _ => (mm_bb (Nat.beq a 1001) (mm_iirir st (fun n dp o1 sp o0 r => mm_few r (mm_dd d (fun _ => mm_arw h.2 o0 (fun n0 f => mm_arw h.2 o1 (fun n1 g => mm_full ≤ h.1 ∧ mm_cpc n0 n1 sp dp n ∧ X d μ nx al ls r (h.1, mU h.2 o1 (mI n1 (va_cpy f g sp.toNatClampNeg dp.toNatClampNeg n.toNatClampNeg))) Q)))))) (mm_bb (Nat.beq a 1002) (mm_i2 st (fun y x r => mm_few r (mm_dd d (fun _ => X d μ nx al ls (.int (if x < y then y else x) :: r) h Q)))) (mm_bb (Nat.beq a 1003) (mm_i2 st (fun y x r => mm_few r (mm_dd d (fun _ => X d μ nx al ls (.int (if y < x then y else x) :: r) h Q)))) (mm_pop b st [] (fun args rest => mm_inv X E d μ nx al ls h Q a args rest)))))
    | .invokevirtual _ => (mm_pop b st [] (fun args rest => mm_r1 args (fun o _ => mm_obj h.2 o (mm_rc a) (fun _ => mm_inv X E d μ nx al ls h Q a args rest))))
    | .invokespecial _ => (mm_bb (Nat.beq a 1000) (mm_r1 st (fun _ r => mm_few r (mm_dd d (fun _ => X d μ nx al ls r h Q)))) (mm_pop b st [] (fun args rest => mm_r1 args (fun _ _ => mm_inv X E d μ nx al ls h Q a args rest))))
    | .ireturn => (match st with
    | [.int x] => (match mm_rt μ with | some .boolean => (x = 0 ∨ x = 1) ∧ Q (some (.int x)) h | _ => Q (some (.int x)) h)
    | _ => False)
    | .lreturn => (match st with
    | [.long x] => Q (some (.long x)) h
    | _ => False)
    | .return_ => (match st with
    | [] => Q none h
    | _ => False)
    | _ => False
theorem mm_stepI_mono {X E Y F : mm_X} (hX : ∀ d μ ip al ls st h Q, X d μ ip al ls st h Q → Y d μ ip al ls st h Q) (hE : ∀ d μ ip al ls st h Q, E d μ ip al ls st h Q → F d μ ip al ls st h Q) (hF : ∀ d μ ip al ls st h Q Q', (∀ r h', Q r h' → Q' r h') → F d μ ip al ls st h Q → F d μ ip al ls st h Q')
    {q : mm_N} {d μ : Nat} {al : Nat × Nat} {ls st : List Value} {h : mm_H} {Q : mm_K} : mm_stepI q X E d μ al ls st h Q → mm_stepI q Y F d μ al ls st h Q := by
  obtain ⟨pc, i, nx, a, b, cv, cut⟩ := q
  cases i
  case iload_n => exact mm_ldI_mono (fun _ => hX _ _ _ _ _ _ _ _)
  case iload => exact mm_ldI_mono (fun _ => hX _ _ _ _ _ _ _ _)
  case lload_n => exact mm_ldL_mono (fun _ => hX _ _ _ _ _ _ _ _)
  case lload => exact mm_ldL_mono (fun _ => hX _ _ _ _ _ _ _ _)
  case aload_n => exact mm_ldR_mono (fun _ => hX _ _ _ _ _ _ _ _)
  case aload => exact mm_ldR_mono (fun _ => hX _ _ _ _ _ _ _ _)
  case istore_n => exact mm_i1_mono (fun x r q => (mm_st_of (mm_st_inv q).1 (hX _ _ _ _ _ _ _ _ (mm_st_inv q).2.1) (mm_st_inv q).2.2))
  case istore => exact mm_i1_mono (fun x r q => (mm_st_of (mm_st_inv q).1 (hX _ _ _ _ _ _ _ _ (mm_st_inv q).2.1) (mm_st_inv q).2.2))
  case astore_n => exact mm_r1_mono (fun x r q => (mm_st_of (mm_st_inv q).1 (hX _ _ _ _ _ _ _ _ (mm_st_inv q).2.1) (mm_st_inv q).2.2))
  case astore => exact mm_r1_mono (fun x r q => (mm_st_of (mm_st_inv q).1 (hX _ _ _ _ _ _ _ _ (mm_st_inv q).2.1) (mm_st_inv q).2.2))
  case lstore_n => exact mm_l1_mono (fun x r q => (mm_st2_of (mm_st2_inv q).1 (hX _ _ _ _ _ _ _ _ (mm_st2_inv q).2.1) (mm_st2_inv q).2.2))
  case lstore => exact mm_l1_mono (fun x r q => (mm_st2_of (mm_st2_inv q).1 (hX _ _ _ _ _ _ _ _ (mm_st2_inv q).2.1) (mm_st2_inv q).2.2))
  case iinc => exact mm_ldI_mono (fun x q => by
      cases cv <;> first
        | exact q.elim
        | exact mm_st_of (mm_st_inv q).1 (hX _ _ _ _ _ _ _ _ (mm_st_inv q).2.1) (mm_st_inv q).2.2)
  case iconst => exact hX _ _ _ _ _ _ _ _
  case bipush => exact hX _ _ _ _ _ _ _ _
  case sipush => exact hX _ _ _ _ _ _ _ _
  case ldc => exact hX _ _ _ _ _ _ _ _
  case ldc_w => exact hX _ _ _ _ _ _ _ _
  case lconst => exact hX _ _ _ _ _ _ _ _
  case ldc2_w => exact hX _ _ _ _ _ _ _ _
  case getstatic => exact hX _ _ _ _ _ _ _ _
  case iadd => exact mm_i2_mono (fun _ _ _ => hX _ _ _ _ _ _ _ _)
  case isub => exact mm_i2_mono (fun _ _ _ => hX _ _ _ _ _ _ _ _)
  case imul => exact mm_i2_mono (fun _ _ _ => hX _ _ _ _ _ _ _ _)
  case iand => exact mm_i2_mono (fun _ _ _ => hX _ _ _ _ _ _ _ _)
  case ior => exact mm_i2_mono (fun _ _ _ => hX _ _ _ _ _ _ _ _)
  case ixor => exact mm_i2_mono (fun _ _ _ => hX _ _ _ _ _ _ _ _)
  case ishl => exact mm_i2_mono (fun _ _ _ => hX _ _ _ _ _ _ _ _)
  case ishr => exact mm_i2_mono (fun _ _ _ => hX _ _ _ _ _ _ _ _)
  case iushr => exact mm_i2_mono (fun _ _ _ => hX _ _ _ _ _ _ _ _)
  case idiv => exact mm_i2_mono (fun _ _ _ q => ⟨q.1, hX _ _ _ _ _ _ _ _ q.2⟩)
  case irem => exact mm_i2_mono (fun _ _ _ q => ⟨q.1, hX _ _ _ _ _ _ _ _ q.2⟩)
  case ladd => exact mm_l2_mono (fun _ _ _ => hX _ _ _ _ _ _ _ _)
  case lmul => exact mm_l2_mono (fun _ _ _ => hX _ _ _ _ _ _ _ _)
  case ldiv => exact mm_l2_mono (fun _ _ _ q => ⟨q.1, hX _ _ _ _ _ _ _ _ q.2⟩)
  case lrem => exact mm_l2_mono (fun _ _ _ q => ⟨q.1, hX _ _ _ _ _ _ _ _ q.2⟩)
  case lcmp => exact mm_l2_mono (fun _ _ _ => hX _ _ _ _ _ _ _ _)
  case ineg => exact mm_i1_mono (fun _ _ => hX _ _ _ _ _ _ _ _)
  case i2l => exact mm_i1_mono (fun _ _ => hX _ _ _ _ _ _ _ _)
  case i2b => exact mm_i1_mono (fun _ _ => hX _ _ _ _ _ _ _ _)
  case l2i => exact mm_l1_mono (fun _ _ => hX _ _ _ _ _ _ _ _)
  case dup => exact mm_v1_mono (fun _ _ => mm_b1_mono (hX _ _ _ _ _ _ _ _))
  case pop => exact mm_v1_mono (fun _ _ => mm_b1_mono (hX _ _ _ _ _ _ _ _))
  case dup2 => exact mm_v2_mono (fun _ _ _ => mm_b1_mono (hX _ _ _ _ _ _ _ _))
  case ifCond c off => cases c <;> exact mm_i1_mono (fun _ _ q => ⟨fun e => hX _ _ _ _ _ _ _ _ (q.1 e), fun e => hX _ _ _ _ _ _ _ _ (q.2 e)⟩)
  case if_icmp c off => cases c <;> exact mm_i2_mono (fun _ _ _ q => ⟨fun e => hX _ _ _ _ _ _ _ _ (q.1 e), fun e => hX _ _ _ _ _ _ _ _ (q.2 e)⟩)
  case goto => exact hX _ _ _ _ _ _ _ _
  case tableswitch => exact mm_i1_mono (fun _ _ => mm_sw_mono (fun _ => hX _ _ _ _ _ _ _ _))
  case newarray => exact mm_i1_mono (fun _ _ q => ⟨q.1, q.2.1, q.2.2.1, q.2.2.2.1, hX _ _ _ _ _ _ _ _ q.2.2.2.2⟩)
  case anewarray => exact mm_i1_mono (fun _ _ q => ⟨q.1, q.2.1, q.2.2.1, q.2.2.2.1, hX _ _ _ _ _ _ _ _ q.2.2.2.2⟩)
  case new => exact fun q => ⟨q.1, q.2.1, q.2.2.1, hX _ _ _ _ _ _ _ _ q.2.2.2⟩
  case getfield => exact mm_r1_mono (fun _ _ => mm_obj_mono (fun _ q => by
      obtain ⟨v, q1, q2⟩ := mm_ld_inv q
      exact mm_ld_of q1 (hX _ _ _ _ _ _ _ _ q2)))
  case putfield => exact mm_vr_mono (fun _ _ _ => mm_obj_mono (fun _ q => by
      obtain ⟨v, q1, q2⟩ := mm_ld_inv q
      exact mm_ld_of q1 (mm_b1_mono (fun q3 => mm_set_of (mm_set_inv q3).1 (hX _ _ _ _ _ _ _ _ (mm_set_inv q3).2)) q2)))
  case iaload => exact mm_ir_mono (fun _ _ _ => mm_arr_mono (fun _ _ q => ⟨q.1, hX _ _ _ _ _ _ _ _ q.2⟩))
  case iastore => exact mm_iir_mono (fun _ _ _ _ => mm_arw_mono (fun _ _ q => ⟨q.1, hX _ _ _ _ _ _ _ _ q.2⟩))
  case aaload => exact mm_ir_mono (fun _ _ _ => mm_rar_mono (fun _ _ _ q => ⟨q.1, by
      obtain ⟨k, q1, q2⟩ := q.2
      exact ⟨k, q1, hX _ _ _ _ _ _ _ _ q2⟩⟩))
  case aastore => exact mm_rir_mono (fun _ _ _ _ => mm_rar_mono (fun _ _ _ q => ⟨q.1, mm_obj_mono (fun _ => hX _ _ _ _ _ _ _ _) q.2⟩))
  case arraylength => exact mm_r1_mono (fun _ _ => mm_alen_mono (fun _ => hX _ _ _ _ _ _ _ _))
  case invokestatic => exact mm_bb_mono (mm_iirir_mono (fun _ _ _ _ _ _ => mm_few_mono (mm_dd_mono (fun _ => mm_arw_mono (fun _ _ => mm_arw_mono (fun _ _ q => ⟨q.1, q.2.1, hX _ _ _ _ _ _ _ _ q.2.2⟩)))))) (mm_bb_mono (mm_i2_mono (fun _ _ _ => mm_few_mono (mm_dd_mono (fun _ => hX _ _ _ _ _ _ _ _)))) (mm_bb_mono (mm_i2_mono (fun _ _ _ => mm_few_mono (mm_dd_mono (fun _ => hX _ _ _ _ _ _ _ _)))) (mm_pop_mono (fun _ _ => mm_inv_mono hX hE hF))))
  case invokevirtual => exact mm_pop_mono (fun _ _ => mm_r1_mono (fun _ _ => mm_obj_mono (fun _ => mm_inv_mono hX hE hF)))
  case invokespecial => exact mm_bb_mono (mm_r1_mono (fun _ _ => mm_few_mono (mm_dd_mono (fun _ => hX _ _ _ _ _ _ _ _)))) (mm_pop_mono (fun _ _ => mm_r1_mono (fun _ _ => mm_inv_mono hX hE hF)))
  case ireturn => exact id
  case lreturn => exact id
  case return_ => exact id
  all_goals exact fun q => q.elim
def mm_mono (X : mm_X) : Prop := ∀ d μ ip al ls st h Q Q', (∀ r h', Q r h' → Q' r h') → X d μ ip al ls st h Q → X d μ ip al ls st h Q'
def mm_step (X E : mm_X) : mm_X := fun d μ ip al ls st h Q => match mm_at μ ip with | some q => mm_stepI q X E d μ al ls st h Q | none => False
theorem mm_step_mono {X E Y F : mm_X} (hX : ∀ d μ ip al ls st h Q, X d μ ip al ls st h Q → Y d μ ip al ls st h Q) (hE : ∀ d μ ip al ls st h Q, E d μ ip al ls st h Q → F d μ ip al ls st h Q) (hF : mm_mono F)
    {d μ ip : Nat} {al : Nat × Nat} {ls st : List Value} {h : mm_H} {Q : mm_K} : mm_step X E d μ ip al ls st h Q → mm_step Y F d μ ip al ls st h Q := by
  unfold mm_step
  cases mm_at μ ip with
  | none => exact id
  | some q => exact mm_stepI_mono hX hE hF
/-- the least that is closed under steps -/
def mm_Ex : mm_X := fun d μ ip al ls st h Q => ∀ X : mm_X, mm_mono X → (∀ d μ ip al ls st h Q, mm_step X X d μ ip al ls st h Q → X d μ ip al ls st h Q) → X d μ ip al ls st h Q
theorem mm_Ex_mono : mm_mono mm_Ex := fun _ _ _ _ _ _ _ _ _ hq h X hm hc => hm _ _ _ _ _ _ _ _ _ hq (h X hm hc)
theorem mm_Ex_step {d μ ip : Nat} {al : Nat × Nat} {ls st : List Value} {h : mm_H} {Q : mm_K} (q : mm_step mm_Ex mm_Ex d μ ip al ls st h Q) : mm_Ex d μ ip al ls st h Q :=
  fun X hm hc => hc _ _ _ _ _ _ _ _ (mm_step_mono (fun _ _ _ _ _ _ _ _ z => z X hm hc) (fun _ _ _ _ _ _ _ _ z => z X hm hc) hm q)
def mm_wp : Nat → mm_X
  | 0 => mm_Ex
  | n + 1 => fun d μ ip al ls st h Q => match mm_at μ ip with
    | some (pc, i, nx, a, b, cv, cut) => (match cut with | true => mm_Ex d μ ip al ls st h Q | false => mm_stepI (pc, i, nx, a, b, cv, cut) (mm_wp n) mm_Ex d μ al ls st h Q)
    | none => False
theorem mm_wp_Ex : ∀ (n d μ ip : Nat) (al : Nat × Nat) (ls st : List Value) (h : mm_H) (Q : mm_K), mm_wp n d μ ip al ls st h Q → mm_Ex d μ ip al ls st h Q
  | 0, _, _, _, _, _, _, _, _, q => q
  | n + 1, d, μ, ip, al, ls, st, h, Q, q => by
    unfold mm_wp at q
    cases e : mm_at μ ip with
    | none => rw [e] at q; exact q.elim
    | some z =>
      rw [e] at q
      obtain ⟨pc, i, nx, a, b, cv, cut⟩ := z
      cases cut with
      | true => exact q
      | false =>
        refine mm_Ex_step ?_
        unfold mm_step
        rw [e]
        exact mm_stepI_mono (mm_wp_Ex n) (fun _ _ _ _ _ _ _ _ z => z) mm_Ex_mono q
/-- a run of at most n + 1 instructions, the first one a cut or not -/
theorem mm_run (n : Nat) {d μ ip : Nat} {al : Nat × Nat} {ls st : List Value} {h : mm_H} {Q : mm_K} (q : mm_step (mm_wp n) mm_Ex d μ ip al ls st h Q) : mm_Ex d μ ip al ls st h Q :=
  mm_Ex_step (mm_step_mono (mm_wp_Ex n) (fun _ _ _ _ _ _ _ _ z => z) mm_Ex_mono q)
end
section
def mm_cls : List vw_C := [(RX0, TX0, 8), (RX1, TX1, 7), (RX2, TX2, 3), (RX3, TX3, 2), (RX4, TX4, 5), (RX5, TX5, 13), (RX6, TX6, 27)]
def mm_nest : Cond → Bool
  | .methodLinkNest _ _ _ _ => true
  | .fieldLinkNest _ _ _ _ _ _ => true
  | _ => false
def mm_gt : List Cond := lw_tbl.filter goodWord
def mm_isw (n : Nat) (x : Cond) : Bool := match mm_get lw_tbl n with | some y => decide (y = x) | none => false
theorem mm_isw_in {n : Nat} {x : Cond} (h : mm_isw n x = true) : x ∈ lw_tbl := by
  unfold mm_isw at h
  rw [mm_get_eq] at h
  split at h
  · rename_i y e
    have e2 : y = x := of_decide_eq_true h
    subst e2
    exact List.mem_of_getElem? e
  · cases h
def mm_wd (n : Nat) (x : Cond) : Bool := goodWord x && mm_isw n x
def mm_nw (n : Nat) (x : Cond) : Bool := mm_nest x && mm_isw n x
theorem mm_wd_in {n : Nat} {x : Cond} (h : mm_wd n x = true) : x ∈ mm_gt := by
  unfold mm_wd at h
  rw [Bool.and_eq_true] at h
  exact List.mem_filter.mpr ⟨mm_isw_in h.2, h.1⟩
theorem mm_nw_in {n : Nat} {x : Cond} (h : mm_nw n x = true) : mm_nest x = true ∧ x ∈ lw_tbl := by
  unfold mm_nw at h
  rw [Bool.and_eq_true] at h
  exact ⟨h.1, mm_isw_in h.2⟩
def mm_li0 (n k : Nat) : Nat := match n with
  | 0 => (bif Nat.blt k 163 then (bif Nat.blt k 78 then (bif Nat.blt k 38 then (bif Nat.blt k 21 then (bif Nat.blt k 15 then (bif Nat.blt k 9 then 68 else (bif Nat.blt k 11 then 71 else 213)) else (bif Nat.blt k 18 then 214 else (bif Nat.blt k 20 then 73 else 75))) else (bif Nat.blt k 31 then (bif Nat.blt k 25 then 215 else (bif Nat.blt k 29 then 216 else 114)) else (bif Nat.blt k 32 then 116 else (bif Nat.blt k 36 then 217 else 152)))) else (bif Nat.blt k 54 then (bif Nat.blt k 45 then (bif Nat.blt k 39 then 154 else (bif Nat.blt k 43 then 218 else 188)) else (bif Nat.blt k 46 then 190 else (bif Nat.blt k 50 then 219 else 220))) else (bif Nat.blt k 64 then (bif Nat.blt k 57 then 221 else (bif Nat.blt k 61 then 222 else 223)) else (bif Nat.blt k 71 then (bif Nat.blt k 68 then 224 else 225) else (bif Nat.blt k 74 then 212 else 257))))) else (bif Nat.blt k 122 then (bif Nat.blt k 101 then (bif Nat.blt k 90 then (bif Nat.blt k 82 then 261 else (bif Nat.blt k 86 then 279 else 292)) else (bif Nat.blt k 94 then 301 else (bif Nat.blt k 97 then 309 else 283))) else (bif Nat.blt k 110 then (bif Nat.blt k 104 then 264 else (bif Nat.blt k 107 then 314 else 322)) else (bif Nat.blt k 113 then 132 else (bif Nat.blt k 119 then 326 else 135)))) else (bif Nat.blt k 141 then (bif Nat.blt k 133 then (bif Nat.blt k 126 then 333 else (bif Nat.blt k 130 then 349 else 142)) else (bif Nat.blt k 137 then 402 else (bif Nat.blt k 140 then 408 else 96))) else (bif Nat.blt k 151 then (bif Nat.blt k 145 then 413 else (bif Nat.blt k 148 then 414 else 81)) else (bif Nat.blt k 157 then (bif Nat.blt k 154 then 426 else 429) else (bif Nat.blt k 160 then 433 else 434)))))) else (bif Nat.blt k 243 then (bif Nat.blt k 203 then (bif Nat.blt k 183 then (bif Nat.blt k 174 then (bif Nat.blt k 168 then 442 else (bif Nat.blt k 171 then 448 else 479)) else (bif Nat.blt k 177 then 85 else (bif Nat.blt k 180 then 92 else 495))) else (bif Nat.blt k 193 then (bif Nat.blt k 187 then 496 else (bif Nat.blt k 190 then 509 else 452)) else (bif Nat.blt k 196 then 517 else (bif Nat.blt k 200 then 522 else 197)))) else (bif Nat.blt k 221 then (bif Nat.blt k 212 then (bif Nat.blt k 206 then 195 else (bif Nat.blt k 209 then 534 else 538)) else (bif Nat.blt k 215 then 546 else (bif Nat.blt k 218 then 553 else 557))) else (bif Nat.blt k 231 then (bif Nat.blt k 224 then 562 else (bif Nat.blt k 227 then 83 else 578)) else (bif Nat.blt k 237 then (bif Nat.blt k 234 then 609 else 617) else (bif Nat.blt k 240 then 622 else 631))))) else (bif Nat.blt k 274 then (bif Nat.blt k 259 then (bif Nat.blt k 250 then (bif Nat.blt k 246 then 649 else (bif Nat.blt k 249 then 654 else 159)) else (bif Nat.blt k 253 then 662 else (bif Nat.blt k 256 then 90 else 667))) else (bif Nat.blt k 264 then (bif Nat.blt k 260 then 679 else (bif Nat.blt k 262 then 680 else 681)) else (bif Nat.blt k 270 then (bif Nat.blt k 267 then 682 else 707) else (bif Nat.blt k 272 then 731 else 732)))) else (bif Nat.blt k 294 then (bif Nat.blt k 283 then (bif Nat.blt k 278 then 733 else (bif Nat.blt k 282 then 268 else 287)) else (bif Nat.blt k 286 then 167 else (bif Nat.blt k 290 then 458 else 582))) else (bif Nat.blt k 301 then (bif Nat.blt k 297 then 586 else (bif Nat.blt k 298 then 170 else 593)) else (bif Nat.blt k 307 then (bif Nat.blt k 304 then 165 else 686) else (bif Nat.blt k 311 then 711 else 714)))))))
  | 1 => (bif Nat.blt k 40 then (bif Nat.blt k 24 then (bif Nat.blt k 15 then (bif Nat.blt k 9 then 157 else 158) else (bif Nat.blt k 18 then 160 else (bif Nat.blt k 21 then 161 else 162))) else (bif Nat.blt k 30 then (bif Nat.blt k 27 then 163 else 164) else (bif Nat.blt k 34 then 166 else (bif Nat.blt k 37 then 168 else 94)))) else (bif Nat.blt k 55 then (bif Nat.blt k 45 then (bif Nat.blt k 41 then 80 else 456) else (bif Nat.blt k 48 then 87 else (bif Nat.blt k 52 then 457 else 89))) else (bif Nat.blt k 63 then (bif Nat.blt k 58 then 470 else 473) else (bif Nat.blt k 66 then 466 else (bif Nat.blt k 69 then 474 else 478)))))
  | 2 => (bif Nat.blt k 42 then (bif Nat.blt k 24 then (bif Nat.blt k 15 then (bif Nat.blt k 9 then 78 else 79) else (bif Nat.blt k 18 then 82 else (bif Nat.blt k 21 then 84 else 86))) else (bif Nat.blt k 30 then (bif Nat.blt k 27 then 88 else 91) else (bif Nat.blt k 34 then 93 else (bif Nat.blt k 38 then 357 else 386)))) else (bif Nat.blt k 61 then (bif Nat.blt k 49 then (bif Nat.blt k 45 then 690 else 406) else (bif Nat.blt k 53 then 407 else (bif Nat.blt k 57 then 418 else 438))) else (bif Nat.blt k 69 then (bif Nat.blt k 64 then 718 else 626) else (bif Nat.blt k 72 then 635 else (bif Nat.blt k 76 then 636 else 653)))))
  | 3 => (bif Nat.blt k 40 then (bif Nat.blt k 20 then (bif Nat.blt k 11 then (bif Nat.blt k 9 then 119 else 120) else (bif Nat.blt k 12 then 121 else (bif Nat.blt k 18 then 141 else 122))) else (bif Nat.blt k 31 then (bif Nat.blt k 23 then 124 else (bif Nat.blt k 27 then 143 else 144)) else (bif Nat.blt k 34 then 353 else (bif Nat.blt k 37 then 358 else 134)))) else (bif Nat.blt k 56 then (bif Nat.blt k 48 then (bif Nat.blt k 44 then 363 else 362) else (bif Nat.blt k 52 then 367 else (bif Nat.blt k 53 then 95 else 377))) else (bif Nat.blt k 66 then (bif Nat.blt k 60 then 381 else (bif Nat.blt k 63 then 371 else 382)) else (bif Nat.blt k 69 then 390 else (bif Nat.blt k 73 then 394 else 375)))))
  | 4 => (bif Nat.blt k 23 then (bif Nat.blt k 13 then (bif Nat.blt k 7 then 127 else 133) else (bif Nat.blt k 19 then 128 else 131)) else (bif Nat.blt k 33 then (bif Nat.blt k 29 then 291 else 300) else (bif Nat.blt k 37 then 296 else (bif Nat.blt k 40 then 272 else 737))))
  | 5 => (bif Nat.blt k 25 then (bif Nat.blt k 15 then (bif Nat.blt k 9 then 193 else 194) else (bif Nat.blt k 19 then 196 else (bif Nat.blt k 22 then 198 else 199))) else (bif Nat.blt k 37 then (bif Nat.blt k 28 then 200 else (bif Nat.blt k 33 then 169 else 462)) else (bif Nat.blt k 41 then 590 else (bif Nat.blt k 44 then 591 else 592))))
  | 6 => (bif Nat.blt k 110 then (bif Nat.blt k 60 then (bif Nat.blt k 32 then (bif Nat.blt k 18 then (bif Nat.blt k 12 then (bif Nat.blt k 9 then 63 else (bif Nat.blt k 10 then 65 else 738)) else (bif Nat.blt k 13 then 740 else (bif Nat.blt k 17 then 253 else 826))) else (bif Nat.blt k 26 then (bif Nat.blt k 22 then 275 else (bif Nat.blt k 23 then 840 else 305)) else (bif Nat.blt k 27 then 848 else (bif Nat.blt k 31 then 310 else 852)))) else (bif Nat.blt k 45 then (bif Nat.blt k 40 then (bif Nat.blt k 36 then 318 else (bif Nat.blt k 37 then 856 else 329)) else (bif Nat.blt k 41 then 864 else (bif Nat.blt k 44 then 337 else 868))) else (bif Nat.blt k 52 then (bif Nat.blt k 48 then 341 else (bif Nat.blt k 49 then 875 else 345)) else (bif Nat.blt k 56 then (bif Nat.blt k 53 then 879 else 398) else (bif Nat.blt k 57 then 914 else 409))))) else (bif Nat.blt k 84 then (bif Nat.blt k 72 then (bif Nat.blt k 65 then (bif Nat.blt k 61 then 918 else (bif Nat.blt k 64 then 422 else 934)) else (bif Nat.blt k 68 then 483 else (bif Nat.blt k 69 then 972 else 487))) else (bif Nat.blt k 77 then (bif Nat.blt k 73 then 976 else (bif Nat.blt k 76 then 491 else 980)) else (bif Nat.blt k 80 then 497 else (bif Nat.blt k 81 then 984 else 501)))) else (bif Nat.blt k 97 then (bif Nat.blt k 89 then (bif Nat.blt k 85 then 988 else (bif Nat.blt k 88 then 505 else 992)) else (bif Nat.blt k 92 then 513 else (bif Nat.blt k 93 then 996 else 518))) else (bif Nat.blt k 102 then (bif Nat.blt k 98 then 1004 else (bif Nat.blt k 101 then 526 else 1016)) else (bif Nat.blt k 106 then (bif Nat.blt k 105 then 530 else 1020) else (bif Nat.blt k 109 then 542 else 1028)))))) else (bif Nat.blt k 161 then (bif Nat.blt k 134 then (bif Nat.blt k 122 then (bif Nat.blt k 117 then (bif Nat.blt k 113 then 549 else (bif Nat.blt k 114 then 1032 else 558)) else (bif Nat.blt k 118 then 1036 else (bif Nat.blt k 121 then 566 else 1044))) else (bif Nat.blt k 129 then (bif Nat.blt k 125 then 570 else (bif Nat.blt k 126 then 1048 else 574)) else (bif Nat.blt k 130 then 1052 else (bif Nat.blt k 133 then 597 else 1072)))) else (bif Nat.blt k 146 then (bif Nat.blt k 141 then (bif Nat.blt k 137 then 601 else (bif Nat.blt k 138 then 1076 else 605)) else (bif Nat.blt k 142 then 1080 else (bif Nat.blt k 145 then 613 else 1091))) else (bif Nat.blt k 153 then (bif Nat.blt k 149 then 618 else (bif Nat.blt k 150 then 1095 else 627)) else (bif Nat.blt k 157 then (bif Nat.blt k 154 then 1102 else 637) else (bif Nat.blt k 158 then 1110 else 641))))) else (bif Nat.blt k 185 then (bif Nat.blt k 173 then (bif Nat.blt k 166 then (bif Nat.blt k 162 then 1114 else (bif Nat.blt k 165 then 645 else 1118)) else (bif Nat.blt k 169 then 658 else (bif Nat.blt k 170 then 1126 else 663))) else (bif Nat.blt k 178 then (bif Nat.blt k 174 then 1130 else (bif Nat.blt k 177 then 671 else 1134)) else (bif Nat.blt k 181 then 675 else (bif Nat.blt k 182 then 1138 else 691)))) else (bif Nat.blt k 198 then (bif Nat.blt k 191 then (bif Nat.blt k 186 then 1153 else (bif Nat.blt k 190 then 695 else 1157)) else (bif Nat.blt k 194 then 699 else (bif Nat.blt k 195 then 1161 else 703))) else (bif Nat.blt k 203 then (bif Nat.blt k 199 then 1165 else (bif Nat.blt k 202 then 719 else 1173)) else (bif Nat.blt k 207 then (bif Nat.blt k 206 then 723 else 1177) else (bif Nat.blt k 210 then 727 else 1181)))))))
  | 7 => (bif Nat.blt k 132 then (bif Nat.blt k 65 then (bif Nat.blt k 35 then (bif Nat.blt k 19 then (bif Nat.blt k 13 then (bif Nat.blt k 7 then 743 else 744) else (bif Nat.blt k 16 then 745 else 746)) else (bif Nat.blt k 25 then (bif Nat.blt k 22 then 747 else 748) else (bif Nat.blt k 28 then 750 else (bif Nat.blt k 32 then 753 else 755)))) else (bif Nat.blt k 50 then (bif Nat.blt k 41 then (bif Nat.blt k 38 then 756 else 757) else (bif Nat.blt k 44 then 758 else (bif Nat.blt k 47 then 759 else 760))) else (bif Nat.blt k 56 then (bif Nat.blt k 53 then 761 else 762) else (bif Nat.blt k 59 then 764 else (bif Nat.blt k 62 then 767 else 768))))) else (bif Nat.blt k 97 then (bif Nat.blt k 80 then (bif Nat.blt k 72 then (bif Nat.blt k 69 then 749 else 751) else (bif Nat.blt k 76 then 833 else 830)) else (bif Nat.blt k 87 then (bif Nat.blt k 84 then 836 else 844) else (bif Nat.blt k 90 then 860 else (bif Nat.blt k 93 then 872 else 887)))) else (bif Nat.blt k 114 then (bif Nat.blt k 103 then (bif Nat.blt k 100 then 766 else 765) else (bif Nat.blt k 107 then 898 else (bif Nat.blt k 111 then 902 else 895))) else (bif Nat.blt k 121 then (bif Nat.blt k 118 then 906 else 891) else (bif Nat.blt k 124 then 754 else (bif Nat.blt k 128 then 910 else 883)))))) else (bif Nat.blt k 192 then (bif Nat.blt k 160 then (bif Nat.blt k 145 then (bif Nat.blt k 138 then (bif Nat.blt k 135 then 930 else 922) else (bif Nat.blt k 141 then 926 else 938)) else (bif Nat.blt k 151 then (bif Nat.blt k 148 then 941 else 945) else (bif Nat.blt k 154 then 964 else (bif Nat.blt k 157 then 968 else 763)))) else (bif Nat.blt k 176 then (bif Nat.blt k 167 then (bif Nat.blt k 163 then 949 else 960) else (bif Nat.blt k 170 then 956 else (bif Nat.blt k 173 then 1000 else 952))) else (bif Nat.blt k 183 then (bif Nat.blt k 180 then 1008 else 1012) else (bif Nat.blt k 186 then 769 else (bif Nat.blt k 189 then 770 else 1024))))) else (bif Nat.blt k 222 then (bif Nat.blt k 207 then (bif Nat.blt k 198 then (bif Nat.blt k 195 then 752 else 1040) else (bif Nat.blt k 201 then 1060 else (bif Nat.blt k 204 then 1063 else 1067))) else (bif Nat.blt k 213 then (bif Nat.blt k 210 then 1071 else 1056) else (bif Nat.blt k 216 then 1088 else (bif Nat.blt k 219 then 1084 else 1099)))) else (bif Nat.blt k 233 then (bif Nat.blt k 228 then (bif Nat.blt k 225 then 1106 else 1122) else (bif Nat.blt k 229 then 1142 else (bif Nat.blt k 231 then 1143 else 1144))) else (bif Nat.blt k 239 then (bif Nat.blt k 236 then 1145 else 1149) else (bif Nat.blt k 242 then 1169 else (bif Nat.blt k 244 then 1185 else 1186)))))))
  | 8 => (bif Nat.blt k 266 then 445 else (bif Nat.blt k 267 then 446 else 447))
  | _ => 0
def mm_cn (n : Nat) : Nat := (bif Nat.blt n 105 then (bif Nat.blt n 52 then (bif Nat.blt n 26 then (bif Nat.blt n 13 then (bif Nat.blt n 6 then (bif Nat.blt n 3 then (bif Nat.blt n 1 then 1 else (bif Nat.blt n 2 then 1 else 1)) else (bif Nat.blt n 4 then 1 else (bif Nat.blt n 5 then 1 else 1))) else (bif Nat.blt n 9 then (bif Nat.blt n 7 then 1 else (bif Nat.blt n 8 then 2 else 2)) else (bif Nat.blt n 11 then (bif Nat.blt n 10 then 2 else 2) else (bif Nat.blt n 12 then 2 else 2)))) else (bif Nat.blt n 19 then (bif Nat.blt n 16 then (bif Nat.blt n 14 then 2 else (bif Nat.blt n 15 then 2 else 2)) else (bif Nat.blt n 17 then 2 else (bif Nat.blt n 18 then 2 else 2))) else (bif Nat.blt n 22 then (bif Nat.blt n 20 then 2 else (bif Nat.blt n 21 then 2 else 2)) else (bif Nat.blt n 24 then (bif Nat.blt n 23 then 2 else 2) else (bif Nat.blt n 25 then 2 else 2))))) else (bif Nat.blt n 39 then (bif Nat.blt n 32 then (bif Nat.blt n 29 then (bif Nat.blt n 27 then 3 else (bif Nat.blt n 28 then 3 else 3)) else (bif Nat.blt n 30 then 3 else (bif Nat.blt n 31 then 3 else 3))) else (bif Nat.blt n 35 then (bif Nat.blt n 33 then 3 else (bif Nat.blt n 34 then 3 else 4)) else (bif Nat.blt n 37 then (bif Nat.blt n 36 then 4 else 4) else (bif Nat.blt n 38 then 4 else 4)))) else (bif Nat.blt n 45 then (bif Nat.blt n 42 then (bif Nat.blt n 40 then 4 else (bif Nat.blt n 41 then 4 else 4)) else (bif Nat.blt n 43 then 4 else (bif Nat.blt n 44 then 4 else 5))) else (bif Nat.blt n 48 then (bif Nat.blt n 46 then 5 else (bif Nat.blt n 47 then 5 else 5)) else (bif Nat.blt n 50 then (bif Nat.blt n 49 then 5 else 5) else (bif Nat.blt n 51 then 5 else 0)))))) else (bif Nat.blt n 78 then (bif Nat.blt n 65 then (bif Nat.blt n 58 then (bif Nat.blt n 55 then (bif Nat.blt n 53 then 0 else (bif Nat.blt n 54 then 0 else 0)) else (bif Nat.blt n 56 then 0 else (bif Nat.blt n 57 then 0 else 0))) else (bif Nat.blt n 61 then (bif Nat.blt n 59 then 0 else (bif Nat.blt n 60 then 0 else 0)) else (bif Nat.blt n 63 then (bif Nat.blt n 62 then 0 else 0) else (bif Nat.blt n 64 then 0 else 0)))) else (bif Nat.blt n 71 then (bif Nat.blt n 68 then (bif Nat.blt n 66 then 0 else (bif Nat.blt n 67 then 0 else 0)) else (bif Nat.blt n 69 then 0 else (bif Nat.blt n 70 then 0 else 0))) else (bif Nat.blt n 74 then (bif Nat.blt n 72 then 0 else (bif Nat.blt n 73 then 0 else 0)) else (bif Nat.blt n 76 then (bif Nat.blt n 75 then 0 else 0) else (bif Nat.blt n 77 then 0 else 0))))) else (bif Nat.blt n 91 then (bif Nat.blt n 84 then (bif Nat.blt n 81 then (bif Nat.blt n 79 then 0 else (bif Nat.blt n 80 then 0 else 0)) else (bif Nat.blt n 82 then 0 else (bif Nat.blt n 83 then 0 else 0))) else (bif Nat.blt n 87 then (bif Nat.blt n 85 then 0 else (bif Nat.blt n 86 then 0 else 0)) else (bif Nat.blt n 89 then (bif Nat.blt n 88 then 0 else 0) else (bif Nat.blt n 90 then 0 else 0)))) else (bif Nat.blt n 98 then (bif Nat.blt n 94 then (bif Nat.blt n 92 then 0 else (bif Nat.blt n 93 then 0 else 0)) else (bif Nat.blt n 96 then (bif Nat.blt n 95 then 0 else 0) else (bif Nat.blt n 97 then 0 else 0))) else (bif Nat.blt n 101 then (bif Nat.blt n 99 then 0 else (bif Nat.blt n 100 then 0 else 0)) else (bif Nat.blt n 103 then (bif Nat.blt n 102 then 0 else 0) else (bif Nat.blt n 104 then 0 else 0))))))) else (bif Nat.blt n 157 then (bif Nat.blt n 131 then (bif Nat.blt n 118 then (bif Nat.blt n 111 then (bif Nat.blt n 108 then (bif Nat.blt n 106 then 0 else (bif Nat.blt n 107 then 0 else 0)) else (bif Nat.blt n 109 then 0 else (bif Nat.blt n 110 then 0 else 0))) else (bif Nat.blt n 114 then (bif Nat.blt n 112 then 0 else (bif Nat.blt n 113 then 0 else 0)) else (bif Nat.blt n 116 then (bif Nat.blt n 115 then 0 else 0) else (bif Nat.blt n 117 then 7 else 7)))) else (bif Nat.blt n 124 then (bif Nat.blt n 121 then (bif Nat.blt n 119 then 7 else (bif Nat.blt n 120 then 7 else 7)) else (bif Nat.blt n 122 then 7 else (bif Nat.blt n 123 then 7 else 7))) else (bif Nat.blt n 127 then (bif Nat.blt n 125 then 7 else (bif Nat.blt n 126 then 7 else 7)) else (bif Nat.blt n 129 then (bif Nat.blt n 128 then 7 else 7) else (bif Nat.blt n 130 then 7 else 7))))) else (bif Nat.blt n 144 then (bif Nat.blt n 137 then (bif Nat.blt n 134 then (bif Nat.blt n 132 then 7 else (bif Nat.blt n 133 then 7 else 7)) else (bif Nat.blt n 135 then 7 else (bif Nat.blt n 136 then 7 else 7))) else (bif Nat.blt n 140 then (bif Nat.blt n 138 then 7 else (bif Nat.blt n 139 then 7 else 7)) else (bif Nat.blt n 142 then (bif Nat.blt n 141 then 7 else 7) else (bif Nat.blt n 143 then 7 else 7)))) else (bif Nat.blt n 150 then (bif Nat.blt n 147 then (bif Nat.blt n 145 then 7 else (bif Nat.blt n 146 then 7 else 7)) else (bif Nat.blt n 148 then 7 else (bif Nat.blt n 149 then 7 else 7))) else (bif Nat.blt n 153 then (bif Nat.blt n 151 then 7 else (bif Nat.blt n 152 then 7 else 7)) else (bif Nat.blt n 155 then (bif Nat.blt n 154 then 7 else 7) else (bif Nat.blt n 156 then 7 else 7)))))) else (bif Nat.blt n 183 then (bif Nat.blt n 170 then (bif Nat.blt n 163 then (bif Nat.blt n 160 then (bif Nat.blt n 158 then 7 else (bif Nat.blt n 159 then 7 else 7)) else (bif Nat.blt n 161 then 7 else (bif Nat.blt n 162 then 7 else 7))) else (bif Nat.blt n 166 then (bif Nat.blt n 164 then 7 else (bif Nat.blt n 165 then 7 else 7)) else (bif Nat.blt n 168 then (bif Nat.blt n 167 then 7 else 7) else (bif Nat.blt n 169 then 7 else 7)))) else (bif Nat.blt n 176 then (bif Nat.blt n 173 then (bif Nat.blt n 171 then 7 else (bif Nat.blt n 172 then 7 else 7)) else (bif Nat.blt n 174 then 7 else (bif Nat.blt n 175 then 7 else 7))) else (bif Nat.blt n 179 then (bif Nat.blt n 177 then 7 else (bif Nat.blt n 178 then 7 else 7)) else (bif Nat.blt n 181 then (bif Nat.blt n 180 then 7 else 7) else (bif Nat.blt n 182 then 7 else 7))))) else (bif Nat.blt n 196 then (bif Nat.blt n 189 then (bif Nat.blt n 186 then (bif Nat.blt n 184 then 7 else (bif Nat.blt n 185 then 7 else 7)) else (bif Nat.blt n 187 then 7 else (bif Nat.blt n 188 then 7 else 7))) else (bif Nat.blt n 192 then (bif Nat.blt n 190 then 7 else (bif Nat.blt n 191 then 7 else 7)) else (bif Nat.blt n 194 then (bif Nat.blt n 193 then 7 else 7) else (bif Nat.blt n 195 then 7 else 7)))) else (bif Nat.blt n 203 then (bif Nat.blt n 199 then (bif Nat.blt n 197 then 7 else (bif Nat.blt n 198 then 7 else 7)) else (bif Nat.blt n 201 then (bif Nat.blt n 200 then 7 else 7) else (bif Nat.blt n 202 then 7 else 7))) else (bif Nat.blt n 206 then (bif Nat.blt n 204 then 7 else (bif Nat.blt n 205 then 7 else 7)) else (bif Nat.blt n 208 then (bif Nat.blt n 207 then 7 else 7) else (bif Nat.blt n 209 then 8 else 6))))))))
def mm_li (μ k : Nat) : Nat := mm_li0 (mm_cn μ) k
def mm_mi (n : Nat) : Nat × Nat × Nat × Nat := (bif Nat.blt n 105 then (bif Nat.blt n 52 then (bif Nat.blt n 26 then (bif Nat.blt n 13 then (bif Nat.blt n 6 then (bif Nat.blt n 3 then (bif Nat.blt n 1 then (58, 156, 155, 0) else (bif Nat.blt n 2 then (58, 455, 453, 454) else (58, 670, 668, 669))) else (bif Nat.blt n 4 then (58, 596, 594, 595) else (bif Nat.blt n 5 then (58, 469, 467, 468) else (58, 465, 463, 464)))) else (bif Nat.blt n 9 then (bif Nat.blt n 7 then (58, 477, 476, 11) else (bif Nat.blt n 8 then (54, 77, 76, 0) else (54, 389, 387, 388))) else (bif Nat.blt n 11 then (bif Nat.blt n 10 then (54, 556, 554, 555) else (54, 385, 383, 384)) else (bif Nat.blt n 12 then (54, 689, 687, 688) else (54, 397, 395, 396))))) else (bif Nat.blt n 19 then (bif Nat.blt n 16 then (bif Nat.blt n 14 then (54, 356, 354, 355) else (bif Nat.blt n 15 then (54, 405, 403, 404) else (54, 417, 415, 416))) else (bif Nat.blt n 17 then (54, 421, 419, 420) else (bif Nat.blt n 18 then (54, 432, 430, 431) else (54, 441, 439, 440)))) else (bif Nat.blt n 22 then (bif Nat.blt n 20 then (54, 437, 435, 436) else (bif Nat.blt n 21 then (54, 565, 563, 564) else (54, 717, 715, 716))) else (bif Nat.blt n 24 then (bif Nat.blt n 23 then (54, 625, 623, 624) else (54, 634, 632, 633)) else (bif Nat.blt n 25 then (54, 652, 650, 651) else (54, 657, 655, 656)))))) else (bif Nat.blt n 39 then (bif Nat.blt n 32 then (bif Nat.blt n 29 then (bif Nat.blt n 27 then (55, 118, 117, 0) else (bif Nat.blt n 28 then (55, 352, 350, 351) else (55, 361, 360, 4))) else (bif Nat.blt n 30 then (55, 366, 365, 5) else (bif Nat.blt n 31 then (55, 374, 373, 7) else (55, 370, 369, 6)))) else (bif Nat.blt n 35 then (bif Nat.blt n 33 then (55, 380, 379, 8) else (bif Nat.blt n 34 then (55, 393, 392, 9) else (56, 126, 125, 0))) else (bif Nat.blt n 37 then (bif Nat.blt n 36 then (56, 286, 284, 285) else (56, 290, 288, 289)) else (bif Nat.blt n 38 then (56, 325, 323, 324) else (56, 299, 297, 298))))) else (bif Nat.blt n 45 then (bif Nat.blt n 42 then (bif Nat.blt n 40 then (56, 295, 293, 294) else (bif Nat.blt n 41 then (56, 271, 269, 270) else (56, 317, 315, 316))) else (bif Nat.blt n 43 then (56, 336, 334, 335) else (bif Nat.blt n 44 then (56, 736, 734, 735) else (59, 192, 191, 0)))) else (bif Nat.blt n 48 then (bif Nat.blt n 46 then (59, 461, 459, 460) else (bif Nat.blt n 47 then (59, 525, 523, 524) else (59, 541, 539, 540))) else (bif Nat.blt n 50 then (bif Nat.blt n 49 then (59, 537, 535, 536) else (59, 482, 480, 481)) else (bif Nat.blt n 51 then (59, 589, 587, 588) else (53, 67, 66, 0))))))) else (bif Nat.blt n 78 then (bif Nat.blt n 65 then (bif Nat.blt n 58 then (bif Nat.blt n 55 then (bif Nat.blt n 53 then (53, 256, 254, 255) else (bif Nat.blt n 54 then (53, 278, 276, 277) else (53, 308, 306, 307))) else (bif Nat.blt n 56 then (53, 313, 311, 312) else (bif Nat.blt n 57 then (53, 321, 319, 320) else (53, 332, 330, 331)))) else (bif Nat.blt n 61 then (bif Nat.blt n 59 then (53, 340, 338, 339) else (bif Nat.blt n 60 then (53, 344, 342, 343) else (53, 348, 346, 347))) else (bif Nat.blt n 63 then (bif Nat.blt n 62 then (53, 401, 399, 400) else (53, 412, 410, 411)) else (bif Nat.blt n 64 then (53, 425, 423, 424) else (53, 486, 484, 485))))) else (bif Nat.blt n 71 then (bif Nat.blt n 68 then (bif Nat.blt n 66 then (53, 490, 488, 489) else (bif Nat.blt n 67 then (53, 494, 492, 493) else (53, 500, 498, 499))) else (bif Nat.blt n 69 then (53, 504, 502, 503) else (bif Nat.blt n 70 then (53, 508, 506, 507) else (53, 516, 514, 515)))) else (bif Nat.blt n 74 then (bif Nat.blt n 72 then (53, 521, 519, 520) else (bif Nat.blt n 73 then (53, 529, 527, 528) else (53, 533, 531, 532))) else (bif Nat.blt n 76 then (bif Nat.blt n 75 then (53, 545, 543, 544) else (53, 552, 550, 551)) else (bif Nat.blt n 77 then (53, 561, 559, 560) else (53, 569, 567, 568)))))) else (bif Nat.blt n 91 then (bif Nat.blt n 84 then (bif Nat.blt n 81 then (bif Nat.blt n 79 then (53, 573, 571, 572) else (bif Nat.blt n 80 then (53, 577, 575, 576) else (53, 600, 598, 599))) else (bif Nat.blt n 82 then (53, 604, 602, 603) else (bif Nat.blt n 83 then (53, 608, 606, 607) else (53, 616, 614, 615)))) else (bif Nat.blt n 87 then (bif Nat.blt n 85 then (53, 621, 619, 620) else (bif Nat.blt n 86 then (53, 630, 628, 629) else (53, 640, 638, 639))) else (bif Nat.blt n 89 then (bif Nat.blt n 88 then (53, 644, 642, 643) else (53, 648, 646, 647)) else (bif Nat.blt n 90 then (53, 661, 659, 660) else (53, 666, 664, 665))))) else (bif Nat.blt n 98 then (bif Nat.blt n 94 then (bif Nat.blt n 92 then (53, 674, 672, 673) else (bif Nat.blt n 93 then (53, 678, 676, 677) else (53, 694, 692, 693))) else (bif Nat.blt n 96 then (bif Nat.blt n 95 then (53, 698, 696, 697) else (53, 702, 700, 701)) else (bif Nat.blt n 97 then (53, 706, 704, 705) else (53, 722, 720, 721)))) else (bif Nat.blt n 101 then (bif Nat.blt n 99 then (53, 726, 724, 725) else (bif Nat.blt n 100 then (53, 730, 728, 729) else (53, 263, 262, 0))) else (bif Nat.blt n 103 then (bif Nat.blt n 102 then (53, 472, 471, 0) else (53, 428, 427, 0)) else (bif Nat.blt n 104 then (53, 548, 547, 0) else (53, 267, 266, 1)))))))) else (bif Nat.blt n 157 then (bif Nat.blt n 131 then (bif Nat.blt n 118 then (bif Nat.blt n 111 then (bif Nat.blt n 108 then (bif Nat.blt n 106 then (53, 304, 303, 3) else (bif Nat.blt n 107 then (53, 260, 259, 0) else (53, 282, 281, 2))) else (bif Nat.blt n 109 then (53, 512, 511, 12) else (bif Nat.blt n 110 then (53, 451, 450, 10) else (53, 581, 580, 13)))) else (bif Nat.blt n 114 then (bif Nat.blt n 112 then (53, 585, 584, 14) else (bif Nat.blt n 113 then (53, 612, 611, 15) else (53, 685, 684, 16))) else (bif Nat.blt n 116 then (bif Nat.blt n 115 then (53, 710, 709, 17) else (53, 713, 712, 0)) else (bif Nat.blt n 117 then (60, 742, 741, 0) else (60, 835, 834, 0))))) else (bif Nat.blt n 124 then (bif Nat.blt n 121 then (bif Nat.blt n 119 then (60, 951, 950, 0) else (bif Nat.blt n 120 then (60, 1090, 1089, 0) else (60, 839, 838, 18))) else (bif Nat.blt n 122 then (60, 847, 846, 19) else (bif Nat.blt n 123 then (60, 832, 831, 0) else (60, 874, 873, 0)))) else (bif Nat.blt n 127 then (bif Nat.blt n 125 then (60, 829, 827, 828) else (bif Nat.blt n 126 then (60, 843, 841, 842) else (60, 851, 849, 850))) else (bif Nat.blt n 129 then (bif Nat.blt n 128 then (60, 855, 853, 854) else (60, 863, 862, 20)) else (bif Nat.blt n 130 then (60, 859, 857, 858) else (60, 867, 865, 866)))))) else (bif Nat.blt n 144 then (bif Nat.blt n 137 then (bif Nat.blt n 134 then (bif Nat.blt n 132 then (60, 871, 869, 870) else (bif Nat.blt n 133 then (60, 878, 876, 877) else (60, 890, 889, 22))) else (bif Nat.blt n 135 then (60, 897, 896, 0) else (bif Nat.blt n 136 then (60, 901, 900, 24) else (60, 905, 904, 25)))) else (bif Nat.blt n 140 then (bif Nat.blt n 138 then (60, 909, 908, 26) else (bif Nat.blt n 139 then (60, 894, 893, 23) else (60, 886, 885, 21))) else (bif Nat.blt n 142 then (bif Nat.blt n 141 then (60, 882, 880, 881) else (60, 913, 912, 27)) else (bif Nat.blt n 143 then (60, 917, 915, 916) else (60, 925, 924, 28))))) else (bif Nat.blt n 150 then (bif Nat.blt n 147 then (bif Nat.blt n 145 then (60, 1003, 1002, 38) else (bif Nat.blt n 146 then (60, 933, 932, 30) else (60, 929, 928, 29))) else (bif Nat.blt n 148 then (60, 921, 919, 920) else (bif Nat.blt n 149 then (60, 940, 939, 0) else (60, 967, 966, 36)))) else (bif Nat.blt n 153 then (bif Nat.blt n 151 then (60, 971, 970, 37) else (bif Nat.blt n 152 then (60, 937, 935, 936) else (60, 975, 973, 974))) else (bif Nat.blt n 155 then (bif Nat.blt n 154 then (60, 979, 977, 978) else (60, 983, 981, 982)) else (bif Nat.blt n 156 then (60, 987, 985, 986) else (60, 991, 989, 990))))))) else (bif Nat.blt n 183 then (bif Nat.blt n 170 then (bif Nat.blt n 163 then (bif Nat.blt n 160 then (bif Nat.blt n 158 then (60, 995, 993, 994) else (bif Nat.blt n 159 then (60, 944, 943, 31) else (60, 963, 962, 35))) else (bif Nat.blt n 161 then (60, 959, 958, 34) else (bif Nat.blt n 162 then (60, 955, 954, 33) else (60, 999, 997, 998)))) else (bif Nat.blt n 166 then (bif Nat.blt n 164 then (60, 1015, 1014, 40) else (bif Nat.blt n 165 then (60, 1011, 1010, 39) else (60, 948, 947, 32))) else (bif Nat.blt n 168 then (bif Nat.blt n 167 then (60, 1007, 1005, 1006) else (60, 1019, 1017, 1018)) else (bif Nat.blt n 169 then (60, 1027, 1026, 41) else (60, 1023, 1021, 1022))))) else (bif Nat.blt n 176 then (bif Nat.blt n 173 then (bif Nat.blt n 171 then (60, 1031, 1029, 1030) else (bif Nat.blt n 172 then (60, 1035, 1033, 1034) else (60, 1043, 1042, 42))) else (bif Nat.blt n 174 then (60, 1039, 1037, 1038) else (bif Nat.blt n 175 then (60, 1047, 1045, 1046) else (60, 1051, 1049, 1050)))) else (bif Nat.blt n 179 then (bif Nat.blt n 177 then (60, 1070, 1069, 45) else (bif Nat.blt n 178 then (60, 1062, 1061, 0) else (60, 1066, 1065, 44))) else (bif Nat.blt n 181 then (bif Nat.blt n 180 then (60, 1059, 1058, 43) else (60, 1055, 1053, 1054)) else (bif Nat.blt n 182 then (60, 1075, 1073, 1074) else (60, 1079, 1077, 1078)))))) else (bif Nat.blt n 196 then (bif Nat.blt n 189 then (bif Nat.blt n 186 then (bif Nat.blt n 184 then (60, 1087, 1086, 46) else (bif Nat.blt n 185 then (60, 1083, 1081, 1082) else (60, 1094, 1092, 1093))) else (bif Nat.blt n 187 then (60, 1101, 1100, 0) else (bif Nat.blt n 188 then (60, 1098, 1096, 1097) else (60, 1109, 1108, 47)))) else (bif Nat.blt n 192 then (bif Nat.blt n 190 then (60, 1105, 1103, 1104) else (bif Nat.blt n 191 then (60, 1113, 1111, 1112) else (60, 1117, 1115, 1116))) else (bif Nat.blt n 194 then (bif Nat.blt n 193 then (60, 1125, 1124, 48) else (60, 1121, 1119, 1120)) else (bif Nat.blt n 195 then (60, 1129, 1127, 1128) else (60, 1133, 1131, 1132))))) else (bif Nat.blt n 203 then (bif Nat.blt n 199 then (bif Nat.blt n 197 then (60, 1137, 1135, 1136) else (bif Nat.blt n 198 then (60, 1148, 1147, 49) else (60, 1152, 1151, 50))) else (bif Nat.blt n 201 then (bif Nat.blt n 200 then (60, 1141, 1139, 1140) else (60, 1156, 1154, 1155)) else (bif Nat.blt n 202 then (60, 1160, 1158, 1159) else (60, 1164, 1162, 1163)))) else (bif Nat.blt n 206 then (bif Nat.blt n 204 then (60, 1172, 1171, 51) else (bif Nat.blt n 205 then (60, 1168, 1166, 1167) else (60, 1176, 1174, 1175))) else (bif Nat.blt n 208 then (bif Nat.blt n 207 then (60, 1180, 1178, 1179) else (60, 1184, 1182, 1183)) else (bif Nat.blt n 209 then (62, 444, 443, 0) else (52, 0, 0, 0)))))))))
def mm_ki (n : Nat) : Nat × Nat := (bif Nat.blt n 3 then (bif Nat.blt n 1 then (153, 58) else (bif Nat.blt n 2 then (74, 54) else (115, 55))) else (bif Nat.blt n 5 then (bif Nat.blt n 4 then (123, 56) else (189, 59)) else (bif Nat.blt n 6 then (64, 53) else (739, 60))))
def mm_pc (μ ip : Nat) : Option Nat := (mm_at μ ip).map (fun q => q.1)
def mm_dc (μ pc : Nat) (i : Instr) (n : Nat) : Bool := decide (decode (mm_by μ) pc = .ok (i, n))
def mm_nx (μ nx pc : Nat) : Bool := decide (mm_pc μ nx = some pc)
def mm_tgt (μ a pc : Nat) (off : Int) : Bool := match mm_pc μ a with | some t => decide ((pc : Int) + off = (t : Int)) | none => false
def mm_vi (cv : Value) (x : Int32) : Bool := decide (cv = .int x)
def mm_vl (cv : Value) (x : Int64) : Bool := decide (cv = .long x)
def mm_cv (cv : Value) (f : Int32 → Bool) : Bool := match cv with | .int x => f x | _ => false
def mm_cvl (cv : Value) (f : Int64 → Bool) : Bool := match cv with | .long x => f x | _ => false
def mm_kl (ci : Nat) (f : String → u_T → Nat → Bool) : Bool := match mm_cls[ci]? with | some (C, T, N) => f C T N | none => false
def mm_fty (t : Option FieldType) (v : Option Value) : Bool := match t, v with
  | some .int, some (.int _) => true
  | some .long, some (.long _) => true
  | some (.object _), some .null => true
  | some (.array _), some .null => true
  | _, _ => false
def mm_sws (μ pc : Nat) : List (Int32 × Nat) → List Int → Int → Bool
  | [], [], _ => true
  | (v, t) :: l, off :: offs, x => decide (v.toInt = x) && (mm_tgt μ t pc off && mm_sws μ pc l offs (x + 1))
  | _, _, _ => false
/-- what a method needs of the tables -/
def mm_mth (a : Nat) : Bool := mm_wd (mm_mi a).1 (.initialized (mm_y a).cls) && (mm_wd (mm_mi a).2.1 (.code (mm_y a) (mm_by a) (mm_ml a) (mm_rt a)) && (Nat.ble (mm_ml a) 80 && (plainName (mm_y a).cls && (decide ((mm_y a).cls ≠ "java/lang/invoke/MethodHandle") && (decide ((mm_y a).cls ≠ "java/lang/invoke/VarHandle") && (decide ((mm_y a).cls = mm_ow a) && decide (mm_in a = true → (mm_y a).name = "<init>")))))))
/-- what a call needs of the tables -/
def mm_cal (μ k a n : Nat) : Bool := Nat.blt a 209 && ((mm_wd (mm_li μ k) (.methodLink (mm_ow μ) k (mm_y a)) || mm_nw (mm_li μ k) (.methodLinkNest (mm_ow μ) k (mm_y a) "BackCourt")) && decide ((parseMethodDescriptor (mm_y a).desc).map (fun d => d.parameters.length) = some n))
def mm_ok (μ : Nat) (q : mm_N) : Bool := match q with
  | (pc, i, nx, a, b, cv, _) => match i with
    | .iload_n k => mm_dc μ pc i 1 && (mm_nx μ nx (pc + 1) && decide ((k : Nat) = a))
    | .iload k => mm_dc μ pc i 2 && (mm_nx μ nx (pc + 2) && decide (k = a))
    | .lload_n k => mm_dc μ pc i 1 && (mm_nx μ nx (pc + 1) && decide ((k : Nat) = a))
    | .lload k => mm_dc μ pc i 2 && (mm_nx μ nx (pc + 2) && decide (k = a))
    | .aload_n k => mm_dc μ pc i 1 && (mm_nx μ nx (pc + 1) && decide ((k : Nat) = a))
    | .aload k => mm_dc μ pc i 2 && (mm_nx μ nx (pc + 2) && decide (k = a))
    | .istore_n k => mm_dc μ pc i 1 && (mm_nx μ nx (pc + 1) && decide ((k : Nat) = a))
    | .istore k => mm_dc μ pc i 2 && (mm_nx μ nx (pc + 2) && decide (k = a))
    | .lstore_n k => mm_dc μ pc i 1 && (mm_nx μ nx (pc + 1) && decide ((k : Nat) = a))
    | .lstore k => mm_dc μ pc i 2 && (mm_nx μ nx (pc + 2) && decide (k = a))
    | .astore_n k => mm_dc μ pc i 1 && (mm_nx μ nx (pc + 1) && decide ((k : Nat) = a))
    | .astore k => mm_dc μ pc i 2 && (mm_nx μ nx (pc + 2) && decide (k = a))
    | .iinc k n => mm_dc μ pc i 3 && (mm_nx μ nx (pc + 3) && (decide (k = a) && mm_vi cv (Int32.ofInt n)))
    | .iconst n => mm_dc μ pc i 1 && (mm_nx μ nx (pc + 1) && mm_vi cv (Int32.ofInt n))
    | .bipush n => mm_dc μ pc i 2 && (mm_nx μ nx (pc + 2) && mm_vi cv (Int8.ofInt n).toInt32)
    | .sipush n => mm_dc μ pc i 3 && (mm_nx μ nx (pc + 3) && mm_vi cv (Int16.ofInt n).toInt32)
    | .ldc k => mm_dc μ pc i 2 && (mm_nx μ nx (pc + 2) && mm_cv cv (fun x => mm_wd (mm_li μ k) (.constant (mm_ow μ) k x)))
    | .ldc_w k => mm_dc μ pc i 3 && (mm_nx μ nx (pc + 3) && mm_cv cv (fun x => mm_wd (mm_li μ k) (.constant (mm_ow μ) k x)))
    | .lconst n => mm_dc μ pc i 1 && (mm_nx μ nx (pc + 1) && mm_vl cv (Int64.ofNat (n : Nat)))
    | .ldc2_w k => mm_dc μ pc i 3 && (mm_nx μ nx (pc + 3) && mm_cvl cv (fun x => mm_wd (mm_li μ k) (.constantLong (mm_ow μ) k x)))
    | .getstatic k => mm_dc μ pc i 3 && (mm_nx μ nx (pc + 3) && mm_nw (mm_li μ k) (.fieldLinkNest (mm_ow μ) k RX5 "LETTERS" "[I" "BackCourt"))
    | .iadd => mm_dc μ pc i 1 && mm_nx μ nx (pc + 1)
    | .isub => mm_dc μ pc i 1 && mm_nx μ nx (pc + 1)
    | .imul => mm_dc μ pc i 1 && mm_nx μ nx (pc + 1)
    | .iand => mm_dc μ pc i 1 && mm_nx μ nx (pc + 1)
    | .ior => mm_dc μ pc i 1 && mm_nx μ nx (pc + 1)
    | .ixor => mm_dc μ pc i 1 && mm_nx μ nx (pc + 1)
    | .ishl => mm_dc μ pc i 1 && mm_nx μ nx (pc + 1)
    | .ishr => mm_dc μ pc i 1 && mm_nx μ nx (pc + 1)
    | .iushr => mm_dc μ pc i 1 && mm_nx μ nx (pc + 1)
    | .idiv => mm_dc μ pc i 1 && mm_nx μ nx (pc + 1)
    | .irem => mm_dc μ pc i 1 && mm_nx μ nx (pc + 1)
    | .ladd => mm_dc μ pc i 1 && mm_nx μ nx (pc + 1)
    | .lmul => mm_dc μ pc i 1 && mm_nx μ nx (pc + 1)
    | .ldiv => mm_dc μ pc i 1 && mm_nx μ nx (pc + 1)
    | .lrem => mm_dc μ pc i 1 && mm_nx μ nx (pc + 1)
    | .lcmp => mm_dc μ pc i 1 && mm_nx μ nx (pc + 1)
    | .ineg => mm_dc μ pc i 1 && mm_nx μ nx (pc + 1)
    | .i2l => mm_dc μ pc i 1 && mm_nx μ nx (pc + 1)
    | .i2b => mm_dc μ pc i 1 && mm_nx μ nx (pc + 1)
    | .l2i => mm_dc μ pc i 1 && mm_nx μ nx (pc + 1)
    | .dup => mm_dc μ pc i 1 && mm_nx μ nx (pc + 1)
    | .pop => mm_dc μ pc i 1 && mm_nx μ nx (pc + 1)
    | .dup2 => mm_dc μ pc i 1 && mm_nx μ nx (pc + 1)
    | .iaload => mm_dc μ pc i 1 && mm_nx μ nx (pc + 1)
    | .iastore => mm_dc μ pc i 1 && mm_nx μ nx (pc + 1)
    | .aaload => mm_dc μ pc i 1 && mm_nx μ nx (pc + 1)
    | .aastore => mm_dc μ pc i 1 && mm_nx μ nx (pc + 1)
    | .arraylength => mm_dc μ pc i 1 && mm_nx μ nx (pc + 1)
    | .ifCond _ off => mm_dc μ pc i 3 && (mm_nx μ nx (pc + 3) && mm_tgt μ a pc off)
    | .if_icmp _ off => mm_dc μ pc i 3 && (mm_nx μ nx (pc + 3) && mm_tgt μ a pc off)
    | .goto off => mm_dc μ pc i 3 && mm_tgt μ a pc off
    | .tableswitch df lo hi offs => (match decode (mm_by μ) pc with | .ok (j, _) => decide (j = i) | _ => false) && (mm_tgt μ b pc df && (mm_sws μ pc (mm_tg μ) offs.toList lo && decide (hi + 1 = lo + (offs.size : Int))))
    | .newarray t => mm_dc μ pc i 2 && (mm_nx μ nx (pc + 2) && (decide (t = .int) && mm_wd 112 (.arrayClass .int)))
    | .anewarray k => mm_dc μ pc i 3 && (mm_nx μ nx (pc + 3) && ((Nat.beq a 1 && mm_wd (mm_li μ k) (.classLink (mm_ow μ) k RX1)) || (Nat.beq a 3 && mm_wd (mm_li μ k) (.classLink (mm_ow μ) k RX3))))
    | .new k => mm_dc μ pc i 3 && (mm_nx μ nx (pc + 3) && mm_kl a (fun C _ N => mm_wd (mm_li μ k) (.classLink (mm_ow μ) k C) && (mm_wd (mm_ki a).1 (.instantiable C N) && (mm_wd (mm_ki a).2 (.initialized C) && decide ((mm_def a).length = N)))))
    | .getfield k => mm_dc μ pc i 3 && (mm_nx μ nx (pc + 3) && mm_kl a (fun _ T N => Nat.blt b N && mm_wd (mm_li μ k) (.fieldLink (mm_ow μ) k (T b).1 (T b).2.1 (T b).2.2.1)))
    | .putfield k => mm_dc μ pc i 3 && (mm_nx μ nx (pc + 3) && mm_kl a (fun _ T N => Nat.blt b N && (mm_wd (mm_li μ k) (.fieldLink (mm_ow μ) k (T b).1 (T b).2.1 (T b).2.2.1) && (mm_fty (parseFieldDescriptor (T b).2.2.1) (mm_def a)[b]? && (!(T b).2.2.2 || (mm_in μ && decide ((T b).1 = mm_ow μ)))))))
    | .invokestatic k => mm_dc μ pc i 3 && (mm_nx μ nx (pc + 3) && (bif Nat.beq a 1001 then mm_wd (mm_li μ k) (.methodLink (mm_ow μ) k arraycopyName) && (mm_wd 328 (.native arraycopyName) && (mm_wd 327 (.static arraycopyName) && mm_wd 61 (.initialized "java/lang/System"))) else bif Nat.beq a 1002 then mm_wd (mm_li μ k) (.methodLink (mm_ow μ) k Lib.Math.max.name) && (mm_wd 129 (.static Lib.Math.max.name) && (mm_wd 57 (.initialized "java/lang/Math") && mm_wd 130 (.code Lib.Math.max.name Lib.Math.max.code 2 (some .int)))) else bif Nat.beq a 1003 then mm_wd (mm_li μ k) (.methodLink (mm_ow μ) k Lib.Math.min.name) && (mm_wd 273 (.static Lib.Math.min.name) && (mm_wd 57 (.initialized "java/lang/Math") && mm_wd 274 (.code Lib.Math.min.name Lib.Math.min.code 2 (some .int)))) else mm_cal μ k a b && mm_wd (mm_mi a).2.2.1 (.static (mm_y a))))
    | .invokevirtual k => mm_dc μ pc i 3 && (mm_nx μ nx (pc + 3) && (decide (1 ≤ b) && (mm_cal μ k a (b - 1) && (mm_wd (mm_mi a).2.2.1 (.instanceMethod (mm_y a)) && (mm_wd (mm_mi a).2.2.2 (.selects (mm_y a).cls (mm_y a) (mm_y a)) && mm_kl (mm_rc a) (fun C _ _ => decide (C = (mm_y a).cls)))))))
    | .invokespecial k => mm_dc μ pc i 3 && (mm_nx μ nx (pc + 3) && (bif Nat.beq a 1000 then mm_wd (mm_li μ k) (.methodLink (mm_ow μ) k objectInit) && (mm_wd 69 (.instanceMethod objectInit) && mm_wd 70 (.code objectInit ⟨#[0xb1]⟩ 1 none)) else decide (1 ≤ b) && (mm_cal μ k a (b - 1) && (mm_wd (mm_mi a).2.2.1 (.instanceMethod (mm_y a)) && (decide ((mm_y a).name = "<init>") && decide (mm_rt a = none))))))
    | .ireturn => mm_dc μ pc i 1 && (decide (mm_rt μ = some .int) || decide (mm_rt μ = some .boolean))
    | .lreturn => mm_dc μ pc i 1 && decide (mm_rt μ = some .long)
    | .return_ => mm_dc μ pc i 1 && decide (mm_rt μ = none)
    | _ => false
end
section
/-! the mini machine's heap as a world of the real one -/
abbrev mm_G : Type := va_G × (ClassId × ClassId × ClassId) × (Nat × Nat × Nat × Nat) × (Nat → Int32)
def gvD (g : mm_G) : va_G := g.1
def gvI (g : mm_G) : ClassId := g.2.1.1
def gvC (g : mm_G) : ClassId := g.2.1.2.1
def gvR (g : mm_G) : ClassId := g.2.1.2.2
def gvb (g : mm_G) : Nat := g.2.2.1.1
def gvt (g : mm_G) : Nat := g.2.2.1.2.1
def gvL (g : mm_G) : Nat := g.2.2.1.2.2.1
def gvz (g : mm_G) : Nat := g.2.2.1.2.2.2
def gvx (g : mm_G) : Nat → Int32 := g.2.2.2
def mm_ad (g : mm_G) : Nat → Nat
  | 0 => gvb g
  | 1 => gvt g
  | k + 2 => gvz g + k
def mm_tr (g : mm_G) : Value → Value
  | .ref k => .ref (mm_ad g k)
  | v => v
def mm_let : Nat → Int32
  | 0 => 114
  | 1 => 98
  | 2 => 102
  | 3 => 117
  | 4 => 99
  | _ => 107
def mm_q (g : mm_G) (f : Nat → Option Nat) : (Nat → Int32) ⊕ (Nat → Int64) ⊕ (Nat → UInt32) ⊕ (Nat → UInt64) ⊕ (Nat → Option Nat) := .inr (.inr (.inr (.inr (fun j => (f j).map (mm_ad g)))))
def mm_ca (g : mm_G) (ci : Nat) : ClassId := bif Nat.beq ci 1 then gvC g else gvR g
def mm_en (g : mm_G) : mm_C → va_E
  | .inl (ci, fs) => .inr (ci, fs.map (mm_tr g))
  | .inr (.inl (n, f)) => .inl (gvI g, n, .inl f)
  | .inr (.inr (.inl (ci, n, f))) => bif (Nat.beq ci 1 || Nat.beq ci 3) then .inl (mm_ca g ci, n, mm_q g f) else .inr (99, [])
  | .inr (.inr (.inr _)) => .inr (99, [])
def mm_ws (g : mm_G) (h : mm_H) : va_W := (List.range (h.1 - 2)).map (fun k => (gvz g + k, mm_en g (h.2 (k + 2))))
def mm_A (g : mm_G) : Nat → Prop := fun q => gvz g ≤ q
def mm_R (g : mm_G) (H : Heap) (h : mm_H) : Prop := (h.1 < mm_full → H.size = gvz g + (h.1 - 2)) ∧ 2 ≤ h.1 ∧ h.2 0 = mE (gvL g) (gvx g) ∧ h.2 1 = mE 6 mm_let ∧ (∀ k, h.1 ≤ k → h.2 k = mO 99 []) ∧ va_P (gvD g) mm_cls (mm_ws g h) H
def mm_tys (g : mm_G) : List (ClassId × FieldType) := [(gvI g, .int), (gvC g, .object RX1), (gvR g, .object RX3)]
theorem mm_ws_get (g : mm_G) (h : mm_H) {k : Nat} (h2 : 2 ≤ k) (hk : k < h.1) : (mm_ws g h)[k - 2]? = some (mm_ad g k, mm_en g (h.2 k)) := by
  obtain ⟨j, rfl⟩ : ∃ j, k = j + 2 := ⟨k - 2, by omega⟩
  have e : j + 2 - 2 = j := by omega
  rw [e]
  unfold mm_ws
  rw [List.getElem?_map, List.getElem?_range (by omega)]
  rfl
theorem mm_ws_len (g : mm_G) (h : mm_H) : (mm_ws g h).length = h.1 - 2 := by simp [mm_ws]
theorem mm_ws_at (g : mm_G) (h : mm_H) (k : Nat) : (mm_ws g h)[k]? = if k < h.1 - 2 then some (gvz g + k, mm_en g (h.2 (k + 2))) else none := by
  unfold mm_ws
  rw [List.getElem?_map]
  by_cases hk : k < h.1 - 2
  · rw [List.getElem?_range hk, if_pos hk]
    rfl
  · rw [if_neg hk, List.getElem?_eq_none (by simpa using hk)]
    rfl
theorem mm_ws_D (g : mm_G) (h : mm_H) : va_D (mm_A g) (mm_ws g h) := by
  refine ⟨fun i j p q hi hj e => ?_, fun k q hk => ?_⟩
  · rw [mm_ws_at] at hi hj
    split at hi
    · split at hj
      · cases hi
        cases hj
        simp at e
        omega
      · cases hj
    · cases hi
  · rw [mm_ws_at] at hk
    split at hk
    · cases hk
      show gvz g ≤ gvz g + k
      omega
    · cases hk
theorem mm_ws_set (g : mm_G) (h : mm_H) {o : Nat} (c : mm_C) (h2 : 2 ≤ o) (ho : o < h.1) : (mm_ws g h).set (o - 2) (mm_ad g o, mm_en g c) = mm_ws g (h.1, mU h.2 o c) := by
  apply List.ext_getElem?
  intro k
  rw [mm_ws_at]
  obtain ⟨j, rfl⟩ : ∃ j, o = j + 2 := ⟨o - 2, by omega⟩
  have e : j + 2 - 2 = j := by omega
  rw [e]
  by_cases hkj : k = j
  · subst hkj
    rw [List.getElem?_set_self (by rw [mm_ws_len]; omega), if_pos (by show k < h.1 - 2; omega)]
    simp [mU, mm_ad]
  · rw [List.getElem?_set_ne (Ne.symm hkj), mm_ws_at]
    by_cases hk : k < h.1 - 2
    · rw [if_pos hk, if_pos hk]
      simp [mU, hkj]
    · rw [if_neg hk, if_neg hk]
theorem mm_ws_push (g : mm_G) (h : mm_H) (c : mm_C) (h2 : 2 ≤ h.1) : mm_ws g h ++ [(mm_ad g h.1, mm_en g c)] = mm_ws g (h.1 + 1, mU h.2 h.1 c) := by
  apply List.ext_getElem?
  intro k
  rw [mm_ws_at]
  obtain ⟨n, hn⟩ : ∃ n, h.1 = n + 2 := ⟨h.1 - 2, by omega⟩
  show _ = if k < h.1 + 1 - 2 then _ else _
  by_cases hk : k < n
  · rw [List.getElem?_append_left (by rw [mm_ws_len]; omega), mm_ws_at, if_pos (by omega), if_pos (by omega)]
    have : ¬ k + 2 = h.1 := by omega
    simp [mU, this]
  · by_cases hk2 : k = n
    · subst hk2
      rw [List.getElem?_append_right (by rw [mm_ws_len]; omega), mm_ws_len, if_pos (by omega)]
      have e1 : k - (h.1 - 2) = 0 := by omega
      rw [e1, hn]
      simp [mU, mm_ad]
    · rw [List.getElem?_eq_none (by simp [mm_ws_len]; omega), if_neg (by omega)]
/-- an object, an array of the mini heap has its place in the world -/
theorem mm_R.obj {g : mm_G} {H : Heap} {h : mm_H} (hR : mm_R g H h) {o ci : Nat} {fs : List Value} (e : h.2 o = mO ci fs) (hc : ci ≠ 99) : 2 ≤ o ∧ o < h.1 ∧ (mm_ws g h)[o - 2]? = some (mm_ad g o, .inr (ci, fs.map (mm_tr g))) := by
  obtain ⟨-, h2, e0, e1, hd, -⟩ := hR
  have ho : o < h.1 := Nat.lt_of_not_le fun q => by
    have z := (hd o q).symm.trans e
    simp [mO] at z
    exact hc z.1.symm
  have h3 : 2 ≤ o := by
    rcases o with _ | _ | o
    · rw [e0] at e; cases e
    · rw [e1] at e; cases e
    · omega
  refine ⟨h3, ho, ?_⟩
  rw [mm_ws_get g h h3 ho, e]
  rfl
theorem mm_R.ints {g : mm_G} {H : Heap} {h : mm_H} (hR : mm_R g H h) {o n : Nat} {f : Nat → Int32} (e : h.2 o = mI n f) : 2 ≤ o ∧ o < h.1 ∧ (mm_ws g h)[o - 2]? = some (mm_ad g o, .inl (gvI g, n, .inl f)) := by
  obtain ⟨-, h2, e0, e1, hd, -⟩ := hR
  have ho : o < h.1 := Nat.lt_of_not_le fun q => by
    have z := (hd o q).symm.trans e
    cases z
  have h3 : 2 ≤ o := by
    rcases o with _ | _ | o
    · rw [e0] at e; cases e
    · rw [e1] at e; cases e
    · omega
  refine ⟨h3, ho, ?_⟩
  rw [mm_ws_get g h h3 ho, e]
  rfl
theorem mm_R.refs {g : mm_G} {H : Heap} {h : mm_H} (hR : mm_R g H h) {o ci n : Nat} {f : Nat → Option Nat} (e : h.2 o = mR ci n f) : 2 ≤ o ∧ o < h.1 ∧ (ci = 1 ∨ ci = 3) ∧ (mm_ws g h)[o - 2]? = some (mm_ad g o, .inl (mm_ca g ci, n, mm_q g f)) := by
  obtain ⟨-, h2, e0, e1, hd, hP⟩ := hR
  have ho : o < h.1 := Nat.lt_of_not_le fun q => by
    have z := (hd o q).symm.trans e
    cases z
  have h3 : 2 ≤ o := by
    rcases o with _ | _ | o
    · rw [e0] at e; cases e
    · rw [e1] at e; cases e
    · omega
  have hw := mm_ws_get g h h3 ho
  rw [e] at hw
  by_cases hc : ci = 1 ∨ ci = 3
  · refine ⟨h3, ho, hc, ?_⟩
    rcases hc with rfl | rfl <;> exact hw
  · exfalso
    have hq := hP _ _ hw
    have en : mm_en g (mR ci n f) = .inr (99, []) := by
      have b1 : (Nat.beq ci 1 || Nat.beq ci 3) = false := by
        rw [Bool.or_eq_false_iff]
        constructor
        · cases z : Nat.beq ci 1 with
          | false => rfl
          | true => exact absurd (Or.inl (Nat.eq_of_beq_eq_true z)) hc
        · cases z : Nat.beq ci 3 with
          | false => rfl
          | true => exact absurd (Or.inr (Nat.eq_of_beq_eq_true z)) hc
      show (bif (Nat.beq ci 1 || Nat.beq ci 3) then _ else _) = _
      rw [b1]
      rfl
    rw [en] at hq
    obtain ⟨r, hr, -⟩ := hq
    cases hr
theorem mm_R.ext {g : mm_G} {H : Heap} {h : mm_H} (hR : mm_R g H h) {o n : Nat} {f : Nat → Int32} (e : h.2 o = mE n f) : (o = 0 ∧ n = gvL g ∧ f = gvx g) ∨ (o = 1 ∧ n = 6 ∧ f = mm_let) := by
  obtain ⟨-, h2, e0, e1, hd, hP⟩ := hR
  rcases o with _ | _ | o
  · have z := e.symm.trans e0
    simp [mE] at z
    exact Or.inl ⟨rfl, z.1, z.2⟩
  · have z := e.symm.trans e1
    simp [mE] at z
    exact Or.inr ⟨rfl, z.1, z.2⟩
  · exfalso
    by_cases ho : o + 2 < h.1
    · have hw := mm_ws_get g h (by omega) ho
      rw [e] at hw
      obtain ⟨r, hr, -⟩ := hP _ _ hw
      cases hr
    · have z := (hd (o + 2) (by omega)).symm.trans e
      cases z
/-- a cell of the world is another one -/
theorem mm_R.put {g : mm_G} {H H1 : Heap} {h : mm_H} (hR : mm_R g H h) {o : Nat} {c : mm_C} (h2 : 2 ≤ o) (ho : o < h.1) (hz : h.1 < mm_full → H1.size = H.size) (hP : va_P (gvD g) mm_cls ((mm_ws g h).set (o - 2) (mm_ad g o, mm_en g c)) H1) : mm_R g H1 (h.1, mU h.2 o c) := by
  obtain ⟨hs, h2', e0, e1, hd, -⟩ := hR
  refine ⟨fun q => by rw [hz q]; exact hs q, h2', ?_, ?_, fun k hk => ?_, ?_⟩
  · show (if 0 = o then c else h.2 0) = _
    rw [if_neg (by omega)]; exact e0
  · show (if 1 = o then c else h.2 1) = _
    rw [if_neg (by omega)]; exact e1
  · show (if k = o then c else h.2 k) = _
    have hk' : h.1 ≤ k := hk
    rw [if_neg (by omega)]
    exact hd k hk'
  · rw [← mm_ws_set g h c h2 ho]
    exact hP
theorem mm_R.push {g : mm_G} {H H1 : Heap} {h : mm_H} (hR : mm_R g H h) {c : mm_C} (hf : h.1 < mm_full) (hz : H1.size = H.size + 1) (hk : ∀ q, q < H.size → H1[q]? = H[q]?) (hc : va_at (gvD g) mm_cls (mm_ad g h.1, mm_en g c) H1) : mm_R g H1 (h.1 + 1, mU h.2 h.1 c) := by
  obtain ⟨hs, h2, e0, e1, hd, hP⟩ := hR
  have hs := hs hf
  refine ⟨fun q => by rw [hz, hs]; show _ = gvz g + (h.1 + 1 - 2); omega, by show 2 ≤ h.1 + 1; omega, ?_, ?_, fun k hk => ?_, ?_⟩
  · show (if 0 = h.1 then c else h.2 0) = _
    rw [if_neg (by omega)]; exact e0
  · show (if 1 = h.1 then c else h.2 1) = _
    rw [if_neg (by omega)]; exact e1
  · show (if k = h.1 then c else h.2 k) = _
    have hk' : h.1 + 1 ≤ k := hk
    rw [if_neg (by omega)]
    exact hd k (by omega)
  · rw [← mm_ws_push g h c h2]
    refine va_P.app (hP.kept fun k q hq => hk q.1 (hP k q hq).lt) ?_
    intro k q hq
    have hk0 : k < 1 := (List.getElem?_eq_some_iff.mp hq).1
    have e : k = 0 := by omega
    subst e
    cases hq
    exact hc
theorem mm_ad_top {g : mm_G} {H : Heap} {h : mm_H} (hR : mm_R g H h) (hf : h.1 < mm_full) : mm_ad g h.1 = H.size := by
  obtain ⟨hs, h2, -⟩ := hR
  have hs := hs hf
  obtain ⟨n, hn⟩ : ∃ n, h.1 = n + 2 := ⟨h.1 - 2, by omega⟩
  rw [hs, hn]
  rfl
/-- locals: what the list has, the slots have -/
def mm_L (g : mm_G) (sl : Array Slot) (n : Nat) (ls : List Value) : Prop := sl.size = n ∧ ls.length = n ∧ lv_wf sl ∧ ∀ (i : Nat) (v : Value), ls[i]? = some v → mm_kd v = true → sl[i]? = some (Slot.val (mm_tr g v))
def mm_pl1 (g : mm_G) (ls : List Value) (i : Nat) : Option (Nat × Value) := match ls[i]? with | some v => (match mm_kd v with | true => some (i, mm_tr g v) | false => none) | none => none
def mm_pl (g : mm_G) (ls : List Value) : List (Nat × Value) := (List.range ls.length).filterMap (mm_pl1 g ls)
theorem mm_pl_in {g : mm_G} {ls : List Value} {i : Nat} {v : Value} (h : ls[i]? = some v) (hv : mm_kd v = true) : (i, mm_tr g v) ∈ mm_pl g ls := by
  refine List.mem_filterMap.mpr ⟨i, List.mem_range.mpr (List.getElem?_eq_some_iff.mp h).1, ?_⟩
  unfold mm_pl1
  rw [h]
  show (match mm_kd v with | true => some (i, mm_tr g v) | false => none) = _
  rw [hv]
theorem mm_L.has {g : mm_G} {sl : Array Slot} {n : Nat} {ls : List Value} (h : mm_L g sl n ls) : lv_has sl n (mm_pl g ls) := by
  refine ⟨h.1, h.2.2.1, fun q hq => ?_⟩
  obtain ⟨i, -, hi⟩ := List.mem_filterMap.mp hq
  unfold mm_pl1 at hi
  split at hi
  · rename_i v e
    split at hi
    · rename_i e2
      cases hi
      exact h.2.2.2 i _ e e2
    · cases hi
  · cases hi
theorem mm_tr_cat (g : mm_G) (v : Value) : (mm_tr g v).category = v.category := by cases v <;> rfl
theorem mm_cat_long {v : Value} (hv : mm_kd v = true) (h : ∀ x, v ≠ .long x) : v.category = 1 := by
  cases v <;> first | rfl | exact absurd rfl (h _) | cases hv
theorem mm_L.st {g : mm_G} {sl sl' : Array Slot} {n : Nat} {ls : List Value} (h : mm_L g sl n ls) {i : Nat} {v : Value} (hi : i < ls.length) (hn : ∀ j x, j + 1 = i → ls[j]? ≠ some (.long x)) (h' : lv_has sl' n ((i, mm_tr g v) :: (mm_pl g ls).filter (fun q => !(q.1 == i) && !(q.1 + 1 == i && q.2.category == 2)))) : mm_L g sl' n (ls.set i v) := by
  refine ⟨h'.1, by rw [List.length_set]; exact h.2.1, h'.2.1, fun j w hj hw => ?_⟩
  by_cases hji : j = i
  · subst hji
    rw [List.getElem?_set_self hi] at hj
    cases hj
    exact h'.2.2 (j, mm_tr g v) List.mem_cons_self
  · rw [List.getElem?_set_ne (Ne.symm hji)] at hj
    refine h'.2.2 (j, mm_tr g w) (List.mem_cons_of_mem _ (List.mem_filter.mpr ⟨mm_pl_in hj hw, ?_⟩))
    by_cases h1 : j + 1 = i
    · have hc : (mm_tr g w).category = 1 := by
        rw [mm_tr_cat]
        exact mm_cat_long hw (fun x e => hn j x h1 (by rw [hj, e]))
      simp [hji, hc]
    · simp [hji, h1]
theorem mm_L.st2 {g : mm_G} {sl sl' : Array Slot} {n : Nat} {ls : List Value} (h : mm_L g sl n ls) {i : Nat} {v : Value} (hi : i + 1 < ls.length) (hn : ∀ j x, j + 1 = i → ls[j]? ≠ some (.long x)) (h' : lv_has sl' n ((i, mm_tr g v) :: (mm_pl g ls).filter (fun q => !(q.1 == i) && (!(q.1 == i + 1) && !(q.1 + 1 == i && q.2.category == 2))))) : mm_L g sl' n ((ls.set i v).set (i + 1) .null) := by
  refine ⟨h'.1, by rw [List.length_set, List.length_set]; exact h.2.1, h'.2.1, fun j w hj hw => ?_⟩
  by_cases hj1 : j = i + 1
  · subst hj1
    rw [List.getElem?_set_self (by rw [List.length_set]; exact hi)] at hj
    cases hj
    cases hw
  · rw [List.getElem?_set_ne (Ne.symm hj1)] at hj
    by_cases hji : j = i
    · subst hji
      rw [List.getElem?_set_self (by omega)] at hj
      cases hj
      exact h'.2.2 (j, mm_tr g v) List.mem_cons_self
    · rw [List.getElem?_set_ne (Ne.symm hji)] at hj
      refine h'.2.2 (j, mm_tr g w) (List.mem_cons_of_mem _ (List.mem_filter.mpr ⟨mm_pl_in hj hw, ?_⟩))
      by_cases h1 : j + 1 = i
      · have hc : (mm_tr g w).category = 1 := by
          rw [mm_tr_cat]
          exact mm_cat_long hw (fun x e => hn j x h1 (by rw [hj, e]))
        simp [hji, hj1, hc]
      · simp [hji, hj1, h1]
/-- a method's first locals -/
theorem mm_ex_len (g : mm_G) : ∀ (args : List Value), mm_akd args = true → (lg_sl (args.map (mm_tr g))).length = (mm_ex args).length
  | [], _ => rfl
  | v :: l, h => by
    have ih := mm_ex_len g l
    cases v <;> simp [mm_akd, mm_kd] at h <;> simp [mm_ex, lg_sl, mm_tr, Value.category] at ih ⊢ <;> exact ih h
theorem mm_ex_in (g : mm_G) : ∀ (args : List Value) (off i : Nat) (v : Value), mm_akd args = true → (mm_ex args)[i]? = some v → mm_kd v = true → (off + i, mm_tr g v) ∈ lv_args off (args.map (mm_tr g))
  | [], off, i, v, _, h, _ => by simp [mm_ex] at h
  | .int x :: l, off, i, v, ha, h, hv => by
    have ih := mm_ex_in g l (off + 1)
    simp [mm_akd, mm_kd] at ha
    cases i with
    | zero =>
      simp [mm_ex] at h
      subst h
      exact List.mem_cons_self
    | succ i =>
      have := ih i v ha (by simpa [mm_ex] using h) hv
      refine List.mem_cons_of_mem _ ?_
      show _ ∈ lv_args (off + 1) _
      have e : off + (i + 1) = off + 1 + i := by omega
      rw [e]
      exact this
  | .ref x :: l, off, i, v, ha, h, hv => by
    have ih := mm_ex_in g l (off + 1)
    simp [mm_akd, mm_kd] at ha
    cases i with
    | zero =>
      simp [mm_ex] at h
      subst h
      exact List.mem_cons_self
    | succ i =>
      have := ih i v ha (by simpa [mm_ex] using h) hv
      refine List.mem_cons_of_mem _ ?_
      show _ ∈ lv_args (off + 1) _
      have e : off + (i + 1) = off + 1 + i := by omega
      rw [e]
      exact this
  | .long x :: l, off, i, v, ha, h, hv => by
    have ih := mm_ex_in g l (off + 2)
    simp [mm_akd, mm_kd] at ha
    rcases i with _ | _ | i
    · simp [mm_ex] at h
      subst h
      exact List.mem_cons_self
    · simp [mm_ex] at h
      subst h
      cases hv
    · have := ih i v ha (by simpa [mm_ex] using h) hv
      refine List.mem_cons_of_mem _ ?_
      show _ ∈ lv_args (off + 2) _
      have e : off + (i + 1 + 1) = off + 2 + i := by omega
      rw [e]
      exact this
  | .float _ :: _, _, _, _, ha, _, _ => by simp [mm_akd, mm_kd] at ha
  | .double _ :: _, _, _, _, ha, _, _ => by simp [mm_akd, mm_kd] at ha
  | .null :: _, _, _, _, ha, _, _ => by simp [mm_akd, mm_kd] at ha
  | .retAddr _ :: _, _, _, _, ha, _, _ => by simp [mm_akd, mm_kd] at ha
theorem mm_L.entry (g : mm_G) {args : List Value} {n : Nat} (ha : mm_akd args = true) (hn : (mm_ex args).length ≤ n) : mm_L g ((lg_sl (args.map (mm_tr g)) ++ List.replicate (n - (lg_sl (args.map (mm_tr g))).length) Slot.unset).toArray) n (mm_ent n args) := by
  have hl := mm_ex_len g args ha
  have h := lv_entry (args.map (mm_tr g)) (n := n) (by rw [hl]; exact hn)
  refine ⟨h.1, ?_, h.2.1, fun i v hi hv => ?_⟩
  · simp [mm_ent]
    omega
  · refine h.2.2 (i, mm_tr g v) ?_
    unfold mm_ent at hi
    by_cases hlt : i < (mm_ex args).length
    · rw [List.getElem?_append_left hlt] at hi
      have := mm_ex_in g args 0 i v ha hi hv
      rwa [Nat.zero_add] at this
    · rw [List.getElem?_append_right (by omega)] at hi
      have e := List.mem_of_getElem? hi
      rw [List.mem_replicate] at e
      rw [e.2] at hv
      cases hv
end
section
def mm_uw : List Cond → List Nat → Bool
  | [], _ => true
  | x :: ws, p :: ps => mm_wd p x && mm_uw ws ps
  | _ :: _, [] => false
theorem mm_uw_in : ∀ {ws : List Cond} {ps : List Nat}, mm_uw ws ps = true → ∀ x ∈ ws, x ∈ mm_gt
  | [], _, _, x, hx => by cases hx
  | y :: ws, [], h, x, hx => by cases h
  | y :: ws, p :: ps, h, x, hx => by
    unfold mm_uw at h
    rw [Bool.and_eq_true] at h
    rcases List.mem_cons.mp hx with e | e
    · rw [e]
      exact mm_wd_in h.1
    · exact mm_uw_in h.2 x e
theorem mm_uw0 : mm_uw (u_ws RX0 TX0 8) [171, 173, 175, 177, 179, 181, 183, 185] = true := by decide +kernel
theorem mm_df0 : ∀ j, j < 8 → defaultValue (tyX0 j) = vp_V (mm_def 0) j := by decide +kernel
theorem mm_uw1 : mm_uw (u_ws RX1 TX1 7) [97, 99, 101, 103, 105, 107, 109] = true := by decide +kernel
theorem mm_df1 : ∀ j, j < 7 → defaultValue (tyX1 j) = vp_V (mm_def 1) j := by decide +kernel
theorem mm_uw2 : mm_uw (u_ws RX2 TX2 3) [145, 147, 149] = true := by decide +kernel
theorem mm_df2 : ∀ j, j < 3 → defaultValue (tyX2 j) = vp_V (mm_def 2) j := by decide +kernel
theorem mm_uw3 : mm_uw (u_ws RX3 TX3 2) [136, 138] = true := by decide +kernel
theorem mm_df3 : ∀ j, j < 2 → defaultValue (tyX3 j) = vp_V (mm_def 3) j := by decide +kernel
theorem mm_uw4 : mm_uw (u_ws RX4 TX4 5) [201, 203, 205, 207, 209] = true := by decide +kernel
theorem mm_df4 : ∀ j, j < 5 → defaultValue (tyX4 j) = vp_V (mm_def 4) j := by decide +kernel
theorem mm_uw5 : mm_uw (u_ws RX5 TX5 13) [226, 228, 230, 232, 234, 236, 238, 240, 242, 244, 246, 248, 250] = true := by decide +kernel
theorem mm_df5 : ∀ j, j < 13 → defaultValue (tyX5 j) = vp_V (mm_def 5) j := by decide +kernel
theorem mm_uw6 : mm_uw (u_ws RX6 TX6 27) [771, 773, 775, 777, 779, 781, 783, 785, 787, 789, 791, 793, 795, 797, 799, 801, 803, 805, 807, 809, 811, 813, 815, 817, 819, 821, 823] = true := by decide +kernel
theorem mm_df6 : ∀ j, j < 27 → defaultValue (tyX6 j) = vp_V (mm_def 6) j := by decide +kernel
/-- what is known of a kind: its layout words, its types, its names, its defaults -/
def mm_kn (a : Nat) (C : String) (T : u_T) (N : Nat) : Prop := (∀ x ∈ u_ws C T N, x ∈ mm_gt) ∧ (∀ i, i < N → ∀ j, j < N → i ≠ j → (T i).2.1 ≠ (T j).2.1) ∧ ∃ ty : Nat → FieldType, (∀ k, k < N → parseFieldDescriptor (T k).2.2.1 = some (ty k)) ∧ ∀ j, j < N → defaultValue (ty j) = vp_V (mm_def a) j
theorem mm_kn_of {a : Nat} {C : String} {T : u_T} {N : Nat} (h : mm_cls[a]? = some (C, T, N)) : a < 7 ∧ mm_kn a C T N := by
  have ha : a < 7 := (List.getElem?_eq_some_iff.mp h).1
  refine ⟨ha, ?_⟩
  rcases a with _ | _ | _ | _ | _ | _ | _ | a
  · cases h
    exact ⟨mm_uw_in mm_uw0, nmX0, tyX0, tyX0_ok, mm_df0⟩
  · cases h
    exact ⟨mm_uw_in mm_uw1, nmX1, tyX1, tyX1_ok, mm_df1⟩
  · cases h
    exact ⟨mm_uw_in mm_uw2, nmX2, tyX2, tyX2_ok, mm_df2⟩
  · cases h
    exact ⟨mm_uw_in mm_uw3, nmX3, tyX3, tyX3_ok, mm_df3⟩
  · cases h
    exact ⟨mm_uw_in mm_uw4, nmX4, tyX4, tyX4_ok, mm_df4⟩
  · cases h
    exact ⟨mm_uw_in mm_uw5, nmX5, tyX5, tyX5_ok, mm_df5⟩
  · cases h
    exact ⟨mm_uw_in mm_uw6, nmX6, tyX6, tyX6_ok, mm_df6⟩
  · omega
theorem mm_kl_inv {ci : Nat} {f : String → u_T → Nat → Bool} (h : mm_kl ci f = true) : ∃ C T N, mm_cls[ci]? = some (C, T, N) ∧ f C T N = true := by
  unfold mm_kl at h
  split at h
  · rename_i C T N e
    exact ⟨C, T, N, e, h⟩
  · cases h
theorem mm_def_tr (g : mm_G) (a : Nat) : (mm_def a).map (mm_tr g) = mm_def a := by
  unfold mm_def
  split <;> rfl
theorem dcT {μ pc : Nat} {i : Instr} {n : Nat} (h : mm_dc μ pc i n = true) : decode (mm_by μ) pc = .ok (i, n) := of_decide_eq_true h
theorem nxT {μ nx pc : Nat} (h : mm_nx μ nx pc = true) : mm_pc μ nx = some pc := of_decide_eq_true h
theorem mm_tgt_inv {μ a pc : Nat} {off : Int} (h : mm_tgt μ a pc off = true) : ∃ t, mm_pc μ a = some t ∧ (pc : Int) + off = (t : Int) := by
  unfold mm_tgt at h
  split at h
  · rename_i t e
    exact ⟨t, e, of_decide_eq_true h⟩
  · cases h
theorem mm_sw_hit {μ pc : Nat} {x : Int32} {K : Nat → Prop} {b : Nat} : ∀ {l : List (Int32 × Nat)} {offs : List Int} {lo : Int}, mm_sws μ pc l offs lo = true → mm_sw x K b l → ((x.toInt < lo ∨ lo + (offs.length : Int) ≤ x.toInt) ∧ K b) ∨ ∃ (k : Nat) (off : Int) (t tp : Nat), x.toInt = lo + (k : Int) ∧ offs[k]? = some off ∧ K t ∧ mm_pc μ t = some tp ∧ (pc : Int) + off = (tp : Int)
  | [], [], lo, _, h => Or.inl ⟨by simp; omega, h⟩
  | [], _ :: _, lo, h, _ => by cases h
  | _ :: _, [], lo, h, _ => by simp [mm_sws] at h
  | (v, t) :: l, off :: offs, lo, h, hs => by
    simp only [mm_sws, Bool.and_eq_true] at h
    obtain ⟨h1, h2, h3⟩ := h
    have h1 : v.toInt = lo := of_decide_eq_true h1
    obtain ⟨tp, e1, e2⟩ := mm_tgt_inv h2
    by_cases hx : x = v
    · exact Or.inr ⟨0, off, t, tp, by rw [hx, h1]; simp, rfl, hs.1 hx, e1, e2⟩
    · have hne : x.toInt ≠ lo := fun e => hx (Int32.toInt_inj.mp (e.trans h1.symm))
      rcases mm_sw_hit h3 (hs.2 hx) with ⟨q1, q2⟩ | ⟨k, off', t', tp', q1, q2, q3⟩
      · refine Or.inl ⟨?_, q2⟩
        simp only [List.length_cons]
        omega
      · exact Or.inr ⟨k + 1, off', t', tp', by rw [q1]; simp; omega, by simpa using q2, q3⟩
theorem mm_cats (r : List Value) (h : mm_csum r ≤ 8) (g : mm_G) : ((r.map (mm_tr g)).map fun v => v.category).sum ≤ 8 := by
  have hk : ∀ l : List Value, ((l.map (mm_tr g)).map fun v => v.category).sum ≤ mm_csum l := by
    intro l
    induction l with
    | nil => simp [mm_csum]
    | cons a l ih =>
      have : (mm_tr g a).category = a.category := by cases a <;> rfl
      rw [List.map_cons, List.map_cons, List.sum_cons, this]
      exact Nat.add_le_add_left ih _
  have := hk r
  omega
/-! what is known of a state, of a method, of its end -/
def mm_T (g : mm_G) (U : State) (H : Heap) : Prop := va_K (gvD g) mm_cls (mm_tys g) U ∧ (∀ x ∈ lw_tbl, mm_nest x = true → va_Nw x U) ∧ va_AO RX1 U ∧ va_AO RX3 U ∧ va_Z RX5 "LETTERS" "[I" (.ref (gvt g)) (mm_A g) U H ∧ va_T .int (gvt g) 6 (fun j => .int (mm_let j)) (mm_A g) U H ∧ va_X (gvb g) (gvL g) (gvx g) U H ∧ gvt g < gvz g ∧ gvb g < gvz g ∧ gvz g ≤ H.size
theorem mm_T.moved {g : mm_G} {s U : State} {H H1 : Heap} (h : mm_T g s H) (hW : s.WarmedH U.vm) (hk : ∀ q, q < H.size → ¬ mm_A g q → H1[q]? = H[q]?) (hz : gvz g ≤ H1.size) : mm_T g U H1 := by
  obtain ⟨h1, h2, h3, h4, h5, h6, h7, h8, h9, h10⟩ := h
  have n1 : ¬ mm_A g (gvt g) := Nat.not_le.mpr h8
  have n2 : ¬ mm_A g (gvb g) := Nat.not_le.mpr h9
  refine ⟨va_K.moved hW.alike h1, fun x hx hn => ?_, va_AO.moved hW.alike h3, va_AO.moved hW.alike h4, (va_Z.moved hW.alike h5).kept hk, (va_T.moved hW.alike h6).kept hk, (va_X.moved hW.alike h7).kept (hk _ (by omega) n2), h8, h9, hz⟩
  have h0 := h2 x hx hn
  cases x <;> first
    | exact va_Nw.warmM hW h0
    | exact va_Nw.warmF hW h0
    | cases hn
theorem mm_nest_tab {x : Cond} (h : mm_nest x = true) : x.onTables = true := by
  cases x <;> first
    | rfl
    | cases h
theorem mm_T.called {g : mm_G} {U : State} {f : JFrame} {mk : MethodId} {a : Array Value} (h : mm_T g U U.heap) : mm_T g (U.calling f mk a) (U.calling f mk a).heap := by
  obtain ⟨h1, h2, h3, h4, h5, h6, h7, h8, h9, h10⟩ := h
  exact ⟨va_K.moved (u := U) (U := U.calling f mk a) (Vm.Alike.refl U.vm) h1, fun x hx hn => va_Nw.same (u := U) (U := U.calling f mk a) (mm_nest_tab hn) rfl (h2 x hx hn), va_AO.moved (u := U) (U := U.calling f mk a) (Vm.Alike.refl U.vm) h3, va_AO.moved (u := U) (U := U.calling f mk a) (Vm.Alike.refl U.vm) h4, va_Z.moved (u := U) (U := U.calling f mk a) (Vm.Alike.refl U.vm) h5, va_T.moved (u := U) (U := U.calling f mk a) (Vm.Alike.refl U.vm) h6, va_X.moved (u := U) (U := U.calling f mk a) (Vm.Alike.refl U.vm) h7, h8, h9, h10⟩
def mm_Cx (g : mm_G) (d μ : Nat) (p : Program) (R : Room) (s : State) (m : MethodId) (args : Array Value) (meth : Method) (c : Code) : Prop :=
  p.tables.exec = Jvm.exec ∧ c.code = mm_by μ ∧ c.maxLocals = mm_ml μ ∧ s.vm.findClass (mm_ow μ) = some m.cls ∧ (∀ x ∈ mm_gt, x.before args s = true) ∧ mm_T g s s.heap ∧ (mm_in μ = true → meth.name = "<init>") ∧ d ≤ R.frames ∧ 100 * d ≤ R.locals ∧ μ < mm_cnt ∧ R.slots ≤ 7302250
def mm_rk (μ : Nat) (i : Instr) (r : Option Value) : Prop := (i = .ireturn ∧ ∃ x : Int32, r = some (.int x) ∧ (mm_rt μ = some .int ∨ (mm_rt μ = some .boolean ∧ (x = 0 ∨ x = 1)))) ∨ (i = .lreturn ∧ mm_rt μ = some .long ∧ ∃ x : Int64, r = some (.long x)) ∨ (i = .return_ ∧ mm_rt μ = none ∧ r = none)
def mm_Rt (l : Launch) (g : mm_G) (μ : Nat) (p : Program) (e : Env) (R : Room) (s : State) (m : MethodId) (args : Array Value) (below : List Frame) (meth : Method) (c : Code) (mc ms : Nat) (Z : State → Prop) (Q : mm_K) : Prop :=
  ∀ (H' : Heap) (locs' : List Loc) (cells' slots' pc : Nat) (sl : Array Slot) (r : Option Value) (h' : mm_H) (i : Instr), Q r h' → mm_R g H' h' → va_S (mm_A g) s.heap H' locs' → cells' ≤ mc → slots' ≤ ms → decode (mm_by μ) pc = .ok (i, 1) → mm_rk μ i r → W p l e R s m args below meth c H' locs' cells' slots' Z (F0 m pc sl (r.toList.map (mm_tr g)))
def mm_Re (l : Launch) (g : mm_G) : mm_X := fun d μ ip al ls st h Q =>
  ∀ (p : Program) (e : Env) (R : Room) (s : State) (m : MethodId) (args : Array Value) (below : List Frame) (meth : Method) (c : Code) (H : Heap) (locs : List Loc) (cells slots mc ms : Nat) (sl : Array Slot) (Z : State → Prop),
    mm_Cx g d μ p R s m args meth c → mm_Rt l g μ p e R s m args below meth c mc ms Z Q → mm_R g H h → va_S (mm_A g) s.heap H locs → mm_L g sl (mm_ml μ) ls → cells + al.1 ≤ mc → slots + al.2 ≤ ms → mc ≤ R.cells → ms ≤ R.slots →
    ∀ pc, mm_pc μ ip = some pc → W p l e R s m args below meth c H locs cells slots Z (F0 m pc sl (st.map (mm_tr g)))
theorem mm_Re_mono (l : Launch) (g : mm_G) : mm_mono (mm_Re l g) := by
  intro d μ ip al ls st h Q Q' hq hX p e R s m args below meth c H locs cells slots mc ms sl Z hC hRt
  exact hX p e R s m args below meth c H locs cells slots mc ms sl Z hC (fun H' locs' cells' slots' pc sl r h' i z => hRt H' locs' cells' slots' pc sl r h' i (hq _ _ z))
def mm_rm (d μ : Nat) : Room := { frames := d, cells := (mm_al μ).1, slots := (mm_al μ).2, locals := 100 * d }
def mm_wsm (μ : Nat) : List Cond := Cond.code (mm_y μ) (mm_by μ) (mm_ml μ) (mm_rt μ) :: mm_gt
def mm_Pc (g : mm_G) (h : mm_H) (As : List Value) : Array Value → State → Prop := va_Pc (As.map (mm_tr g)) (fun U => mm_T g U U.heap ∧ mm_R g U.heap h)
def mm_Qc (g : mm_G) (K : mm_K) : Array Value → State → Outcome → State → Prop := fun _ st o t => ∃ r h', o = .returned (r.map (mm_tr g)) ∧ K r h' ∧ mm_R g t.heap h' ∧ va_F (mm_A g) st t
theorem mm_mth_inv {a : Nat} (h : mm_mth a = true) : Cond.initialized (mm_y a).cls ∈ mm_gt ∧ Cond.code (mm_y a) (mm_by a) (mm_ml a) (mm_rt a) ∈ mm_gt ∧ mm_ml a ≤ 80 ∧ plainName (mm_y a).cls = true ∧ (mm_y a).cls ≠ "java/lang/invoke/MethodHandle" ∧ (mm_y a).cls ≠ "java/lang/invoke/VarHandle" ∧ (mm_y a).cls = mm_ow a ∧ (mm_in a = true → (mm_y a).name = "<init>") := by
  unfold mm_mth at h
  simp only [Bool.and_eq_true] at h
  obtain ⟨h1, h2, h3, h4, h5, h6, h7, h8⟩ := h
  exact ⟨mm_wd_in h1, mm_wd_in h2, Nat.le_of_ble_eq_true h3, h4, of_decide_eq_true h5, of_decide_eq_true h6, of_decide_eq_true h7, of_decide_eq_true h8⟩
set_option maxHeartbeats 4000000 in
/-- a method's contract out of what its code does in the mini machine -/
theorem mm_met {l : Launch} {g : mm_G} {d a : Nat} {As : List Value} {h : mm_H} {K : mm_K} (hX : mm_Re l g d a 0 (mm_al a) (mm_ent (mm_ml a) As) [] h K) (hm : mm_mth a = true) (ha : a < mm_cnt) (hz : (mm_al a).2 ≤ 7302250) (hA : mm_akd As = true) (hn : (mm_ex As).length ≤ mm_ml a) (hpc : mm_pc a 0 = some 0) : Met l (mm_y a) (mm_wsm a) (mm_rm d a) (mm_Pc g h As) (mm_Qc g K) (mm_al a).1 (mm_al a).2 (mm_A g) := by
  obtain ⟨m1, m2, m3, m4, m5, m6, m7, m8⟩ := mm_mth_inv hm
  refine Met.ofW (cc := mm_by a) (maxL := mm_ml a) (ret := mm_rt a) m4 rfl ?_
  intro p e s m args below meth c s₁ B hml hv
  obtain ⟨rfl, hT, hR⟩ := hv
  have hx := B.exec
  have hb := B.bytes
  have hr := B.returns
  have hlocks := B.notSynchronized
  have hts := atoms_spec (ws := mm_wsm a) B.pre
  have hown : s.vm.findClass (mm_y a).cls = some m.cls := findClass_of_methodNamed B.named
  have hnm : meth.name = (mm_y a).name := (name_of_methodNamed B.named B.method).1
  rw [lg_entry_eq]
  refine hX p e (mm_rm d a) s m _ below meth c s.heap [] 0 0 (mm_al a).1 (mm_al a).2 _ _ ⟨hx, hb, hml, by rw [← m7]; exact hown, fun x hx => hts x (List.mem_cons_of_mem _ hx), hT, fun z => hnm.trans (m8 z), Nat.le_refl _, Nat.le_refl _, ha, hz⟩ ?_ hR va_S.rf (mm_L.entry g hA hn) (by omega) (by omega) (Nat.le_refl _) (Nat.le_refl _) 0 hpc
  intro H' locs' cells' slots' pc sl r h' i hq hR' hS' hc hs hd hk
  refine W.widen hc hs ?_
  rcases hk with ⟨rfl, x, rfl, hrt | ⟨hrt, hx01⟩⟩ | ⟨rfl, hrt, x, rfl⟩ | ⟨rfl, hrt, rfl⟩
  · exact W.iret hx hb (hr.trans hrt) (fun t ht hW => ⟨some (.int x), h', rfl, hq, by rw [ht]; exact hR', hS'.F ht⟩) (fun q hq => hS'.2.2 q hq) hd
  · exact W.zret hx hb (hr.trans hrt) (by rcases hx01 with rfl | rfl <;> rfl) (fun t ht hW => ⟨some (.int x), h', rfl, hq, by rw [ht]; exact hR', hS'.F ht⟩) (fun q hq => hS'.2.2 q hq) hd
  · exact W.lret hx hb (hr.trans hrt) (fun t ht hW => ⟨some (.long x), h', rfl, hq, by rw [ht]; exact hR', hS'.F ht⟩) (fun q hq => hS'.2.2 q hq) hd
  · exact W.vret hx hb (hr.trans hrt) (fun t ht hW => ⟨none, h', rfl, hq, by rw [ht]; exact hR', hS'.F ht⟩) (fun q hq => hS'.2.2 q hq) hd
section MG
variable {p : Program} {l : Launch} {e : Env} {R : Room} {s : State} {m : MethodId} {args : Array Value} {below : List Frame} {meth : Method} {c : Code} {H : Heap} {locs : List Loc} {cells slots : Nat} {Z : State → Prop}
/-- behind a call -/
theorem mm_go {g : mm_G} {K : mm_K} {a : Array Value} {pc mc ms : Nat} {sl : Array Slot} {st0 rest : List Value} (hr : va_Run p l e R s m args below meth c H locs cells slots mc ms (F0 m pc sl st0) rest (mm_Qc g K a) (mm_A g)) (hS : va_S (mm_A g) s.heap H locs)
    (kk : ∀ (r : Option Value) (h' : mm_H) (H1 : Heap) (locs1 : List Loc), K r h' → mm_R g H1 h' → va_S (mm_A g) s.heap H1 locs1 → W p l e R s m args below meth c H1 locs1 (cells + mc) (slots + ms) Z (F0 m (pc + 3) sl ((r.map (mm_tr g)).toList ++ rest))) : W p l e R s m args below meth c H locs cells slots Z (F0 m pc sl st0) := by
  intro T hT X
  obtain ⟨v, st₀, t, T', L, h0, X', hL, e1, e2, ⟨r, h', hv, hK, hR, hz, hk⟩, st⟩ := hr T hT X
  cases hv
  rw [h0] at hz hk
  obtain ⟨t2, a1, b1⟩ := kk r h' T'.heap (locs ++ L) hK (by rw [e1]; exact hR)
    ⟨Nat.le_trans hS.1 (by rw [e1]; exact hz), fun q h1 h2 => by rw [e1, hk q (Nat.lt_of_lt_of_le h1 hS.1) h2]; exact hS.2.1 q h1 h2, fun q hq => by
      rcases List.mem_append.mp hq with h | h
      · exact hS.2.2 q h
      · exact hL q h⟩ T' rfl X'
  exact ⟨t2, st t2 a1, b1⟩
end MG
theorem mm_gt_good : GoodIn mm_gt mm_gt := fun x hx => ⟨hx, good_of_word (List.mem_filter.mp hx).2⟩
theorem mm_wsm_good {a : Nat} (hm : mm_mth a = true) : GoodIn mm_gt (mm_wsm a) := fun x hx => by
  rcases List.mem_cons.mp hx with e | e
  · rw [e]
    exact mm_gt_good _ (mm_mth_inv hm).2.1
  · exact mm_gt_good x e
theorem mm_Pc_blind (g : mm_G) (h : mm_H) (As : List Value) : FrameBlind (mm_Pc g h As) := by
  intro a U f mk q
  obtain ⟨q1, q2, q3⟩ := q
  exact ⟨q1, q2.called, q3⟩
theorem mm_Pc_at {g : mm_G} {s : State} {H : Heap} {h : mm_H} {As : List Value} {locs : List Loc} (hT : mm_T g s s.heap) (hS : va_S (mm_A g) s.heap H locs) (hR : mm_R g H h) : ∀ U : State, U.heap = H → s.WarmedH U.vm → mm_Pc g h As (As.map (mm_tr g)).toArray U := by
  intro U hU hW
  have hz : gvz g ≤ H.size := Nat.le_trans hT.2.2.2.2.2.2.2.2.2 hS.1
  exact ⟨rfl, by rw [hU]; exact hT.moved hW (fun q h1 h2 => hS.2.1 q h1 h2) hz, by rw [hU]; exact hR⟩
end
section
/-! rows of stores that say that nothing is made -/
section MST
variable {p : Program} {l : Launch} {e : Env} {R : Room} {s : State} {m : MethodId} {args : Array Value} {below : List Frame} {meth : Method} {c : Code} {H : Heap} {locs : List Loc} {cells slots : Nat} {Z : State → Prop}
theorem mm_iast {g : mm_G} {h : mm_H} {cc : ByteArray} (hx : p.tables.exec = Jvm.exec) (hb : c.code = cc) (hK : va_K (gvD g) mm_cls (mm_tys g) s) (hR : mm_R g H h) (hS : va_S (mm_A g) s.heap H locs) {o n : Nat} {f : Nat → Int32} (eo : h.2 o = mI n f) {i x : Int32} (hin : vp_in i n) {pc : Nat} {sl : Array Slot} {rest : List Value} (hdg : decode cc pc = .ok (.iastore, 1))
    (kk : ∀ (H1 : Heap) (locs1 : List Loc), mm_R g H1 (h.1, mU h.2 o (mI n (upd f i.toNatClampNeg x))) → va_S (mm_A g) s.heap H1 locs1 → W p l e R s m args below meth c H1 locs1 cells slots Z (F0 m (pc + 1) sl rest)) : W p l e R s m args below meth c H locs cells slots Z (F0 m pc sl (.int x :: .int i :: .ref (mm_ad g o) :: rest)) := by
  obtain ⟨h2, ho, hw⟩ := hR.ints eo
  have hP := hR.2.2.2.2.2
  have hcell : H[mm_ad g o]? = some (vp_cell (gvI g) (n, .inl f)) := hP _ _ hw
  refine W.iast hx hb hcell ((hK.2 0 _ rfl).1 n (fun j => .int (f j))) (fun q => by cases q) (by show ¬ (i < 0 ∨ (arrV _ _ _).slots.size ≤ _); rw [arrV_size]; exact hin) rfl rfl hdg fun H1 e1 z1 o1 => ?_
  refine kk H1 _ (hR.put h2 ho (fun _ => z1) (hP.set (mm_ws_D g h) hw ?_ o1)) (hS.put z1 o1 ((mm_ws_D g h).2 _ _ hw))
  show H1[mm_ad g o]? = some (vp_cell _ _)
  rw [e1, vp_cell_i, vp_cell_i, arrV_store]
  congr 2
  funext q
  by_cases hq : q = i.toNatClampNeg
  · subst hq
    simp [updV, upd]
  · simp [updV, upd, hq]
theorem mm_fits {ty : FieldType} {w v : Value} (g : mm_G) (h1 : mm_fty (some ty) (some w) = true) (h2 : mm_fit w v = true) : narrow ty (mm_tr g v) = mm_tr g v ∧ fits ty (mm_tr g v) = true := by
  cases w <;> cases v <;> first
    | (exfalso; simp [mm_fit] at h2; done)
    | (cases ty <;> first
        | (exfalso; simp [mm_fty] at h1; done)
        | exact ⟨rfl, rfl⟩)
theorem mm_put {g : mm_G} {h : mm_H} {cc : ByteArray} {own C : String} {T : u_T} {N index a b : Nat} (hx : p.tables.exec = Jvm.exec) (hb : c.code = cc) (hts : ∀ x ∈ mm_gt, x.before args s = true) (hown : s.vm.findClass own = some m.cls) (hK : va_K (gvD g) mm_cls (mm_tys g) s) (hR : mm_R g H h) (hS : va_S (mm_A g) s.heap H locs) (hcl : mm_cls[a]? = some (C, T, N)) (hbN : b < N) (hlink : (Cond.fieldLink own index (T b).1 (T b).2.1 (T b).2.2.1).before args s = true) {fw : Value} (hty0 : mm_fty (parseFieldDescriptor (T b).2.2.1) (some fw) = true) (hfin : (T b).2.2.2 = false ∨ ((T b).2.2.2 = true ∧ meth.name = "<init>" ∧ (T b).1 = own)) {o : Nat} {fs : List Value} (eo : h.2 o = mO a fs) {v : Value} (hv : mm_fit fw v = true) (hl : b < fs.length) {pc : Nat} {sl : Array Slot} {rest : List Value} (hdg : decode cc pc = .ok (.putfield index, 3))
    (kk : ∀ (H1 : Heap) (locs1 : List Loc), mm_R g H1 (h.1, mU h.2 o (mO a (fs.set b v))) → va_S (mm_A g) s.heap H1 locs1 → W p l e R s m args below meth c H1 locs1 cells slots Z (F0 m (pc + 3) sl rest)) : W p l e R s m args below meth c H locs cells slots Z (F0 m pc sl (mm_tr g v :: .ref (mm_ad g o) :: rest)) := by
  obtain ⟨ha7, hin, hnm, ty0, hty, hdf⟩ := mm_kn_of hcl
  have hd : parseFieldDescriptor (T b).2.2.1 = some (ty0 b) := hty b hbN
  rw [hd] at hty0
  obtain ⟨hn, hfit⟩ := mm_fits g hty0 hv
  obtain ⟨h2, ho, hw⟩ := hR.obj eo (by omega)
  have hP := hR.2.2.2.2.2
  have hap := va_apart (own := own) (args := args) hts hin ty0 hty hnm hK hcl
  obtain ⟨r, h1, cell, q1, q2, q3, q4⟩ := hP _ _ hw
  have hr : r = (C, T, N) := Option.some.inj (h1.symm.trans hcl)
  subst hr
  obtain ⟨hSl, hfc, kC, hkC, hkind⟩ := hK.1 a _ hcl
  obtain ⟨cf, kf, fi, f, hi, hsl⟩ := hSl b hbN
  have hlay := hts _ (hin _ (u_in_lay hbN))
  have hst := (u_facts hfc hkC (u_lays hts hin hbN) hi).1
  have hfin9 : ∀ (H' : Heap), H'[mm_ad g o]? = some (cell.setSlot f.slot (mm_tr g v)) → H'.size = H.size → (∀ q, q ≠ mm_ad g o → H'[q]? = H[q]?) → W p l e R s m args below meth c H' (locs ++ [⟨mm_ad g o, f.slot⟩]) cells slots Z (F0 m (pc + 3) sl rest) := by
    intro H' e1 z1 o1
    refine kk H' _ (hR.put h2 ho (fun _ => z1) ?_) (hS.put z1 o1 ((mm_ws_D g h).2 _ _ hw))
    refine hP.set (mm_ws_D g h) hw ?_ o1
    refine ⟨_, hcl, ?_⟩
    rw [hsl] at e1
    have hl' : b < (fs.map (mm_tr g)).length := by rw [List.length_map]; exact hl
    refine t_OB.to (V := updV (vp_V (fs.map (mm_tr g))) b (mm_tr g v)) ⟨_, e1, q2, q3, t_set q4 hap hbN (mm_tr g v)⟩ (fun j _ => ?_)
    rw [vp_updV_set hl' (mm_tr g v) j, ← List.map_set]
  rcases hfin with hf0 | ⟨hf1, hf2, hf3⟩
  · unfold u_lay at hlay
    rw [if_neg (by rw [hf0]; decide)] at hlay
    have h6 := u_store hfc hkC hkind hlay hi hd hn hfit
    exact W.putK hx hb (f := f) ⟨hown, hlink, ⟨_, _, _, hi⟩, hst⟩ (by rw [q2]; exact h6) q1 q3 (by rw [hsl]; exact k2_hasslot (q4 b hbN)) rfl rfl hdg hfin9
  · unfold u_lay at hlay
    rw [if_pos hf1] at hlay
    have hcf : m.cls = cf := by
      obtain ⟨_, _, c', _, _, _, -, -, hf', -, -, -, hown2, -⟩ := Cond.laysFinal_spec hlay
      have e1 : c' = cf := by have := hi.symm.trans hf'; simp at this; exact this.1.symm
      rw [hf3] at hown2
      rw [← e1]
      exact Option.some.inj (hown.symm.trans hown2)
    have h6 := u_fits hfc hkC hkind (Or.inr hlay) hi hd hn hfit
    exact W.putFinK hx hb hown hlink hi hst hcf hf2 (by rw [q2]; exact h6) q1 q3 (by rw [hsl]; exact k2_hasslot (q4 b hbN)) rfl rfl hdg hfin9
theorem mm_ca_ty {g : mm_G} {ci : Nat} (h : ci = 1 ∨ ci = 3) : ∃ (t0 : Nat) (r : vw_C), mm_cls[ci]? = some r ∧ (mm_tys g)[t0]? = some (mm_ca g ci, .object r.1) := by
  rcases h with rfl | rfl
  · exact ⟨1, _, rfl, rfl⟩
  · exact ⟨2, _, rfl, rfl⟩
theorem mm_aast {g : mm_G} {h : mm_H} {cc : ByteArray} (hx : p.tables.exec = Jvm.exec) (hb : c.code = cc) (hK : va_K (gvD g) mm_cls (mm_tys g) s) (hR : mm_R g H h) (hS : va_S (mm_A g) s.heap H locs) {o n v ci : Nat} {f : Nat → Option Nat} (eo : h.2 o = mR ci n f) {fs : List Value} (ev : h.2 v = mO ci fs) {i : Int32} (hin : vp_in i n) {pc : Nat} {sl : Array Slot} {rest : List Value} (hdg : decode cc pc = .ok (.aastore, 1))
    (kk : ∀ (H1 : Heap) (locs1 : List Loc), mm_R g H1 (h.1, mU h.2 o (mR ci n (va_up f i.toNatClampNeg (some v)))) → va_S (mm_A g) s.heap H1 locs1 → W p l e R s m args below meth c H1 locs1 cells slots Z (F0 m (pc + 1) sl rest)) : W p l e R s m args below meth c H locs cells slots Z (F0 m pc sl (.ref (mm_ad g v) :: .int i :: .ref (mm_ad g o) :: rest)) := by
  obtain ⟨h2, ho, hci, hw⟩ := hR.refs eo
  obtain ⟨t0, r, hc, ht⟩ := mm_ca_ty (g := g) hci
  obtain ⟨h2v, hov, hwv⟩ := hR.obj ev (by omega)
  have hP := hR.2.2.2.2.2
  have hlt : i.toNatClampNeg < n := Nat.not_le.mp fun q => hin (Or.inr q)
  have h0 : ¬ i < 0 := fun q => hin (Or.inl q)
  obtain ⟨r', hr', cellV, g1, g2, g3, -⟩ := hP _ _ hwv
  have hcls := (hK.1 ci r hc).2
  obtain ⟨kA, comp, k1, k2, k3, -⟩ := (hK.2 t0 _ ht).2
  have hcomp : comp = (gvD g).1 ci := Option.some.inj (k3.symm.trans hcls.1)
  subst hcomp
  obtain ⟨kC, hkC, -⟩ := hcls.2
  have hcell : H[mm_ad g o]? = some (vp_cell (mm_ca g ci) (n, mm_q g f)) := hP _ _ hw
  refine W.aast hx hb hcell (fun q h => by cases h) (fun h => by cases h) k1 k2 rfl hkC ⟨h0, by show _ < (arrV _ _ _).slots.size; rw [arrV_size]; exact hlt⟩ g1 (fun q h => by rw [g3] at h; cases h) (by rw [g2]; exact hkC) (by rw [g2]; exact va_assign hcls) rfl rfl hdg fun H1 e1 z1 o1 => ?_
  refine kk H1 _ (hR.put h2 ho (fun _ => z1) (hP.set (mm_ws_D g h) hw ?_ o1)) (hS.put z1 o1 ((mm_ws_D g h).2 _ _ hw))
  have en : mm_en g (mR ci n (va_up f i.toNatClampNeg (some v))) = .inl (mm_ca g ci, n, mm_q g (va_up f i.toNatClampNeg (some v))) := by
    rcases hci with rfl | rfl <;> rfl
  rw [en]
  show H1[mm_ad g o]? = some (vp_cell _ _)
  rw [e1]
  unfold mm_q
  rw [vp_cell_q, vp_cell_q, arrV_store]
  congr 2
  funext q
  by_cases hq : q = i.toNatClampNeg
  · subst hq
    simp [updV, va_up, va_rf]
  · simp [updV, va_up, hq]
theorem mm_new {g : mm_G} {h : mm_H} {cc : ByteArray} {own C : String} {T : u_T} {N index a : Nat} (hx : p.tables.exec = Jvm.exec) (hb : c.code = cc) (hts : ∀ x ∈ mm_gt, x.before args s = true) (hown : s.vm.findClass own = some m.cls) (hK : va_K (gvD g) mm_cls (mm_tys g) s) (hR : mm_R g H h) (hS : va_S (mm_A g) s.heap H locs) (hcl : mm_cls[a]? = some (C, T, N)) (w1 : (Cond.classLink own index C).before args s = true) (w2 : (Cond.instantiable C N).before args s = true) (w3 : (Cond.initialized C).before args s = true) (hf : h.1 < mm_full) (hc1 : cells + 1 ≤ R.cells) (hc2 : slots + N ≤ R.slots) {pc : Nat} {sl : Array Slot} {st : List Value} (hdg : decode cc pc = .ok (.new index, 3))
    (kk : ∀ (H1 : Heap), mm_R g H1 (h.1 + 1, mU h.2 h.1 (mO a (mm_def a))) → va_S (mm_A g) s.heap H1 locs → W p l e R s m args below meth c H1 locs (cells + 1) (slots + N) Z (F0 m (pc + 3) sl (.ref (mm_ad g h.1) :: st))) : W p l e R s m args below meth c H locs cells slots Z (F0 m pc sl st) := by
  obtain ⟨ha7, hin, hnm, ty0, hty, hdf⟩ := mm_kn_of hcl
  have hKn := hK.1 a _ hcl
  have had := mm_ad_top hR hf
  refine W.newcK hx hb hown w1 w2 w3 rfl hdg hc1 hc2 hKn.2.1 rfl fun H1 kC hkC e1 z1 o1 => ?_
  have hK2 := kk H1 (hR.push hf z1 o1 ?_) ⟨Nat.le_trans hS.1 (by omega), fun q h1 h2 => (o1 q (Nat.lt_of_lt_of_le h1 hS.1)).trans (hS.2.1 q h1 h2), hS.2.2⟩
  · rw [had] at hK2
    exact hK2
  · rw [had]
    refine ⟨_, hcl, ?_⟩
    refine (u_born ty0 hts hin hKn hkC e1 hty).to (fun j hj => ?_)
    rw [mm_def_tr]
    exact hdf j hj
theorem mm_newi {g : mm_G} {h : mm_H} {cc : ByteArray} (hx : p.tables.exec = Jvm.exec) (hb : c.code = cc) (w1 : (Cond.arrayClass .int).before args s = true) (hK : va_K (gvD g) mm_cls (mm_tys g) s) (hR : mm_R g H h) (hS : va_S (mm_A g) s.heap H locs) (hf : h.1 < mm_full) {n : Int32} (hn : ¬ n < 0) (hn2 : n.toNatClampNeg ≤ 7302250) (hc1 : cells + 1 ≤ R.cells) (hc2 : slots + n.toNatClampNeg ≤ R.slots) {pc : Nat} {sl : Array Slot} {st : List Value} (hdg : decode cc pc = .ok (.newarray .int, 2))
    (kk : ∀ (H1 : Heap), mm_R g H1 (h.1 + 1, mU h.2 h.1 (mI n.toNatClampNeg (fun _ => 0))) → va_S (mm_A g) s.heap H1 locs → W p l e R s m args below meth c H1 locs (cells + 1) (slots + n.toNatClampNeg) Z (F0 m (pc + 2) sl (.ref (mm_ad g h.1) :: st))) : W p l e R s m args below meth c H locs cells slots Z (F0 m pc sl (.int n :: st)) := by
  have had := mm_ad_top hR hf
  refine va_newaK hx hb (atype := .int) w1 rfl hdg rfl hn rfl (by show n.toNatClampNeg * 4 ≤ _; omega) hc1 hc2 rfl fun H1 cA e1 z1 o1 hAr hNm => ?_
  have hcA : cA = gvI g := by
    have z : s.vm.findClass ("[" ++ (FieldType.int).toString) = some (gvI g) := (hK.2 0 _ rfl).2
    exact Option.some.inj (hNm.symm.trans z)
  subst hcA
  have hK2 := kk H1 (hR.push hf z1 o1 ?_) ⟨Nat.le_trans hS.1 (by omega), fun q h1 h2 => (o1 q (Nat.lt_of_lt_of_le h1 hS.1)).trans (hS.2.1 q h1 h2), hS.2.2⟩
  · rw [had] at hK2
    exact hK2
  · rw [had]
    exact e1
theorem mm_newr {g : mm_G} {h : mm_H} {cc : ByteArray} {own : String} {index a : Nat} {r : vw_C} (hx : p.tables.exec = Jvm.exec) (hb : c.code = cc) (hown : s.vm.findClass own = some m.cls) (ha : a = 1 ∨ a = 3) (hcl : mm_cls[a]? = some r) (w1 : (Cond.classLink own index r.1).before args s = true) (w2 : va_AO r.1 s) (hK : va_K (gvD g) mm_cls (mm_tys g) s) (hR : mm_R g H h) (hS : va_S (mm_A g) s.heap H locs) (hf : h.1 < mm_full) {n : Int32} (hn : ¬ n < 0) (hn2 : n.toNatClampNeg ≤ 7302250) (hc1 : cells + 1 ≤ R.cells) (hc2 : slots + n.toNatClampNeg ≤ R.slots) {pc : Nat} {sl : Array Slot} {st : List Value} (hdg : decode cc pc = .ok (.anewarray index, 3))
    (kk : ∀ (H1 : Heap), mm_R g H1 (h.1 + 1, mU h.2 h.1 (mR a n.toNatClampNeg (fun _ => none))) → va_S (mm_A g) s.heap H1 locs → W p l e R s m args below meth c H1 locs (cells + 1) (slots + n.toNatClampNeg) Z (F0 m (pc + 3) sl (.ref (mm_ad g h.1) :: st))) : W p l e R s m args below meth c H locs cells slots Z (F0 m pc sl (.int n :: st)) := by
  have had := mm_ad_top hR hf
  refine W.anew hx hb hown w1 (va_AO.use w2) rfl hdg rfl hn (by omega) hc1 hc2 fun cA kA comp f1 f2 f3 f4 => ?_
  have hcA : cA = mm_ca g a := by
    obtain ⟨t0, r', hr', ht⟩ := mm_ca_ty (g := g) ha
    have er : r' = r := Option.some.inj (hr'.symm.trans hcl)
    subst er
    obtain ⟨_, _, _, _, _, k4⟩ := (hK.2 t0 _ ht).2
    exact Option.some.inj (f1.symm.trans k4)
  subst hcA
  generalize hH1 : H.push ({ cls := mm_ca g a, slots := Array.replicate n.toNatClampNeg .null, vm := .none } : Cell) = H1
  have z1 : H1.size = H.size + 1 := by rw [← hH1, Array.size_push]
  have e1 : H1[H.size]? = some (arrV (mm_ca g a) n.toNatClampNeg (fun _ => .null)) := by rw [← hH1, Array.getElem?_push_size, ← arrV_new]
  have o1 : ∀ q : Nat, q < H.size → H1[q]? = H[q]? := fun q hq => by rw [← hH1, Array.getElem?_push, if_neg (Nat.ne_of_lt hq)]
  have hK2 := kk H1 (hR.push hf z1 o1 ?_) ⟨Nat.le_trans hS.1 (by omega), fun q h1 h2 => (o1 q (Nat.lt_of_lt_of_le h1 hS.1)).trans (hS.2.1 q h1 h2), hS.2.2⟩
  · rw [had] at hK2
    exact hK2
  · rw [had]
    have en : mm_en g (mR a n.toNatClampNeg (fun _ => none)) = .inl (mm_ca g a, n.toNatClampNeg, mm_q g (fun _ => none)) := by
      rcases ha with rfl | rfl <;> rfl
    rw [en]
    exact e1
end MST
end
section
/-! every step of the mini machine is one of the real machine -/
theorem mm_cal_inv {μ k a n : Nat} (h : mm_cal μ k a n = true) : a < 209 ∧ (Cond.methodLink (mm_ow μ) k (mm_y a) ∈ mm_gt ∨ (Cond.methodLinkNest (mm_ow μ) k (mm_y a) "BackCourt" ∈ lw_tbl)) ∧ (parseMethodDescriptor (mm_y a).desc).map (fun d => d.parameters.length) = some n := by
  unfold mm_cal at h
  simp only [Bool.and_eq_true, Bool.or_eq_true] at h
  obtain ⟨h1, h2, h3⟩ := h
  refine ⟨by simpa [Nat.blt_eq] using h1, ?_, of_decide_eq_true h3⟩
  rcases h2 with h2 | h2
  · exact Or.inl (mm_wd_in h2)
  · exact Or.inr (mm_nw_in h2).2
theorem mm_rest_W {g : mm_G} {m : MethodId} {pc : Nat} {sl : Array Slot} {st rest : List Value} (h : mm_csum rest ≤ 8) : 2 * (F0 m pc sl st).monitorRoom + ((rest.map (mm_tr g)).map fun v => v.category).sum ≤ 8 := lv_room (mm_cats rest h g)
theorem mm_map_rev {g : mm_G} {as rest : List Value} : (as.reverse ++ rest).map (mm_tr g) = (as.map (mm_tr g)).reverse ++ rest.map (mm_tr g) := by simp
theorem mm_al_small (a : Nat) (h : a < 209) : (mm_al a).2 ≤ 7302250 ∧ mm_pc a 0 = some 0 := by
  have H : ((List.range 209).all (fun a => Nat.ble (mm_al a).2 7302250 && decide (mm_pc a 0 = some 0))) = true := by decide +kernel
  have := List.all_eq_true.mp H a (List.mem_range.mpr h)
  rw [Bool.and_eq_true] at this
  exact ⟨Nat.le_of_ble_eq_true this.1, of_decide_eq_true this.2⟩
section MC
variable {p : Program} {l : Launch} {e : Env} {R : Room} {s : State} {m : MethodId} {args : Array Value} {below : List Frame} {meth : Method} {c : Code} {H : Heap} {locs : List Loc} {cells slots : Nat} {Z : State → Prop}
/-- a call, whatever its kind: hrun is its row -/
theorem mm_inv_W {g : mm_G} {d μ nx a pc mc ms : Nat} {al : Nat × Nat} {ls : List Value} {h : mm_H} {Q : mm_K} {As rest : List Value} {st0 : List Value} {sl : Array Slot}
    (hq : mm_inv (mm_Re l g) (mm_Re l g) d μ nx al ls h Q a As rest) (ha : a < 209) (hm : mm_mth a = true)
    (hC : mm_Cx g d μ p R s m args meth c) (hRt : mm_Rt l g μ p e R s m args below meth c mc ms Z Q) (hR : mm_R g H h) (hS : va_S (mm_A g) s.heap H locs) (hL : mm_L g sl (mm_ml μ) ls) (h1 : cells + al.1 ≤ mc) (h2 : slots + al.2 ≤ ms) (h3 : mc ≤ R.cells) (h4 : ms ≤ R.slots) (hnx : mm_pc μ nx = some (pc + 3))
    (hrun : ∀ (d' : Nat) (K : mm_K), d = d' + 1 → mm_csum rest ≤ 8 → Met l (mm_y a) (mm_wsm a) (mm_rm d' a) (mm_Pc g h As) (mm_Qc g K) (mm_al a).1 (mm_al a).2 (mm_A g) → (mm_rm d' a).frames + 1 ≤ R.frames ∧ 8 + (mm_ml a + 11) + (mm_rm d' a).locals ≤ R.locals → cells + (mm_al a).1 ≤ R.cells ∧ slots + (mm_al a).2 ≤ R.slots → ∃ av, va_Run p l e R s m args below meth c H locs cells slots (mm_al a).1 (mm_al a).2 (F0 m pc sl st0) (rest.map (mm_tr g)) (mm_Qc g K av) (mm_A g)) : W p l e R s m args below meth c H locs cells slots Z (F0 m pc sl st0) := by
  unfold mm_inv at hq
  obtain ⟨hfew, hq⟩ := mm_few_inv hq
  obtain ⟨hb1, hq⟩ := mm_b1_inv hq
  rw [Bool.and_eq_true] at hb1
  obtain ⟨t1, t2, hq⟩ := mm_tk_inv hq
  obtain ⟨d', rfl, hq⟩ := mm_dd_inv hq
  obtain ⟨mz, mp⟩ := mm_al_small a ha
  have hM := mm_met hq hm (Nat.lt_trans ha (by decide)) mz hb1.1 (Nat.le_of_ble_eq_true hb1.2) mp
  have hml := (mm_mth_inv hm).2.2.1
  have hC0 := hC
  obtain ⟨hx, hb, hmx, hown, hts, hT, hin, hfr, hlo, hμ, hsl⟩ := hC
  obtain ⟨av, hr⟩ := hrun d' _ rfl hfew hM ⟨hfr, by show 8 + (mm_ml a + 11) + 100 * d' ≤ R.locals; omega⟩ ⟨by omega, by omega⟩
  refine mm_go hr hS (fun r h' H1 locs1 hk hR1 hS1 => ?_)
  cases r with
  | none => exact hk p e R s m args below meth c H1 locs1 _ _ mc ms sl Z hC0 hRt hR1 hS1 hL (by show cells + (mm_al a).1 + (al.1 - (mm_al a).1) ≤ mc; omega) (by show slots + (mm_al a).2 + (al.2 - (mm_al a).2) ≤ ms; omega) h3 h4 _ hnx
  | some v => exact hk p e R s m args below meth c H1 locs1 _ _ mc ms sl Z hC0 hRt hR1 hS1 hL (by show cells + (mm_al a).1 + (al.1 - (mm_al a).1) ≤ mc; omega) (by show slots + (mm_al a).2 + (al.2 - (mm_al a).2) ≤ ms; omega) h3 h4 _ hnx
end MC

set_option maxHeartbeats 8000000 in
theorem mm_closed (l : Launch) (g : mm_G) (hall : ∀ μ, μ < mm_cnt → ∀ ip q, mm_at μ ip = some q → mm_ok μ q = true) (hmth : ∀ a, a < 209 → mm_mth a = true) (d μ ip : Nat) (al : Nat × Nat) (ls st : List Value) (h : mm_H) (Q : mm_K) : mm_step (mm_Re l g) (mm_Re l g) d μ ip al ls st h Q → mm_Re l g d μ ip al ls st h Q := by
  intro hq p e R s m args below meth c H locs cells slots mc ms sl Z hC hRt hR hS hL h1 h2 h3 h4 pc hpc
  obtain ⟨hx, hb, hml, hown, hts, hT, hin, hfr, hlo, hμ, hsl⟩ := hC
  have hC : mm_Cx g d μ p R s m args meth c := ⟨hx, hb, hml, hown, hts, hT, hin, hfr, hlo, hμ, hsl⟩
  unfold mm_step at hq
  cases hat : mm_at μ ip with
  | none => rw [hat] at hq; exact hq.elim
  | some z =>
    rw [hat] at hq
    have hok := hall μ hμ ip z hat
    obtain ⟨pc', i, nx, a, b, cv, cut⟩ := z
    have hpc' : pc' = pc := by
      unfold mm_pc at hpc
      rw [hat] at hpc
      exact Option.some.inj hpc
    subst hpc'
    have hgo : ∀ {nx : Nat} {ls : List Value} {st : List Value} {n : Nat}, mm_Re l g d μ nx al ls st h Q → mm_L g sl (mm_ml μ) ls → mm_pc μ nx = some n → W p l e R s m args below meth c H locs cells slots Z (F0 m n sl (st.map (mm_tr g))) := fun hk hL hn => hk p e R s m args below meth c H locs cells slots mc ms sl Z hC hRt hR hS hL h1 h2 h3 h4 _ hn
    cases i
    case iload_n k =>
      simp only [mm_ok, Bool.and_eq_true] at hok
      obtain ⟨hd, hn, hk⟩ := hok
      obtain ⟨x, hl, hz⟩ := mm_ldI_inv hq
      refine lv_iload_n hx hb (dcT hd) (of_decide_eq_true hk) (hL.2.2.2 a _ hl rfl) ?_
      exact hgo hz hL (nxT hn)
    case iload k =>
      simp only [mm_ok, Bool.and_eq_true] at hok
      obtain ⟨hd, hn, hk⟩ := hok
      obtain ⟨x, hl, hz⟩ := mm_ldI_inv hq
      have hk := of_decide_eq_true hk
      subst hk
      refine lv_iload hx hb (dcT hd) (hL.2.2.2 _ _ hl rfl) ?_
      exact hgo hz hL (nxT hn)
    case lload_n k =>
      simp only [mm_ok, Bool.and_eq_true] at hok
      obtain ⟨hd, hn, hk⟩ := hok
      obtain ⟨x, hl, hz⟩ := mm_ldL_inv hq
      refine lv_lload_n hx hb (dcT hd) (of_decide_eq_true hk) (hL.2.2.2 a _ hl rfl) ?_
      exact hgo hz hL (nxT hn)
    case lload k =>
      simp only [mm_ok, Bool.and_eq_true] at hok
      obtain ⟨hd, hn, hk⟩ := hok
      obtain ⟨x, hl, hz⟩ := mm_ldL_inv hq
      have hk := of_decide_eq_true hk
      subst hk
      refine lv_lload hx hb (dcT hd) (hL.2.2.2 _ _ hl rfl) ?_
      exact hgo hz hL (nxT hn)
    case aload_n k =>
      simp only [mm_ok, Bool.and_eq_true] at hok
      obtain ⟨hd, hn, hk⟩ := hok
      obtain ⟨x, hl, hz⟩ := mm_ldR_inv hq
      refine lv_aload_n hx hb (dcT hd) (of_decide_eq_true hk) (hL.2.2.2 a _ hl rfl) ?_
      exact hgo hz hL (nxT hn)
    case aload k =>
      simp only [mm_ok, Bool.and_eq_true] at hok
      obtain ⟨hd, hn, hk⟩ := hok
      obtain ⟨x, hl, hz⟩ := mm_ldR_inv hq
      have hk := of_decide_eq_true hk
      subst hk
      refine lv_aload hx hb (dcT hd) (hL.2.2.2 _ _ hl rfl) ?_
      exact hgo hz hL (nxT hn)
    case istore_n k =>
      simp only [mm_ok, Bool.and_eq_true] at hok
      obtain ⟨hd, hn, hk⟩ := hok
      obtain ⟨x, r, rfl, hz⟩ := mm_i1_inv hq
      obtain ⟨hi, hz, hlg⟩ := mm_st_inv hz
      have hk := of_decide_eq_true hk
      subst hk
      refine lv_istore_n hx hb (dcT hd) rfl hL.has (by rw [← hL.2.1]; exact hi) rfl (fun sl2 hl2 => ?_)
      exact hz p e R s m args below meth c H locs cells slots mc ms sl2 Z hC hRt hR hS (hL.st hi hlg hl2) h1 h2 h3 h4 _ (nxT hn)
    case istore k =>
      simp only [mm_ok, Bool.and_eq_true] at hok
      obtain ⟨hd, hn, hk⟩ := hok
      obtain ⟨x, r, rfl, hz⟩ := mm_i1_inv hq
      obtain ⟨hi, hz, hlg⟩ := mm_st_inv hz
      have hk := of_decide_eq_true hk
      subst hk
      refine lv_istore hx hb (dcT hd) hL.has (by rw [← hL.2.1]; exact hi) rfl (fun sl2 hl2 => ?_)
      exact hz p e R s m args below meth c H locs cells slots mc ms sl2 Z hC hRt hR hS (hL.st hi hlg hl2) h1 h2 h3 h4 _ (nxT hn)
    case astore_n k =>
      simp only [mm_ok, Bool.and_eq_true] at hok
      obtain ⟨hd, hn, hk⟩ := hok
      obtain ⟨x, r, rfl, hz⟩ := mm_r1_inv hq
      obtain ⟨hi, hz, hlg⟩ := mm_st_inv hz
      have hk := of_decide_eq_true hk
      subst hk
      refine lv_astore_n hx hb (dcT hd) rfl hL.has (by rw [← hL.2.1]; exact hi) rfl (fun sl2 hl2 => ?_)
      exact hz p e R s m args below meth c H locs cells slots mc ms sl2 Z hC hRt hR hS (hL.st hi hlg hl2) h1 h2 h3 h4 _ (nxT hn)
    case astore k =>
      simp only [mm_ok, Bool.and_eq_true] at hok
      obtain ⟨hd, hn, hk⟩ := hok
      obtain ⟨x, r, rfl, hz⟩ := mm_r1_inv hq
      obtain ⟨hi, hz, hlg⟩ := mm_st_inv hz
      have hk := of_decide_eq_true hk
      subst hk
      refine lv_astore hx hb (dcT hd) hL.has (by rw [← hL.2.1]; exact hi) rfl (fun sl2 hl2 => ?_)
      exact hz p e R s m args below meth c H locs cells slots mc ms sl2 Z hC hRt hR hS (hL.st hi hlg hl2) h1 h2 h3 h4 _ (nxT hn)
    case lstore_n k =>
      simp only [mm_ok, Bool.and_eq_true] at hok
      obtain ⟨hd, hn, hk⟩ := hok
      obtain ⟨x, r, rfl, hz⟩ := mm_l1_inv hq
      obtain ⟨hi, hz, hlg⟩ := mm_st2_inv hz
      have hk := of_decide_eq_true hk
      subst hk
      refine lv_lstore_n hx hb (dcT hd) rfl hL.has (by rw [← hL.2.1]; exact hi) rfl (fun sl2 hl2 => ?_)
      exact hz p e R s m args below meth c H locs cells slots mc ms sl2 Z hC hRt hR hS (hL.st2 hi hlg hl2) h1 h2 h3 h4 _ (nxT hn)
    case lstore k =>
      simp only [mm_ok, Bool.and_eq_true] at hok
      obtain ⟨hd, hn, hk⟩ := hok
      obtain ⟨x, r, rfl, hz⟩ := mm_l1_inv hq
      obtain ⟨hi, hz, hlg⟩ := mm_st2_inv hz
      have hk := of_decide_eq_true hk
      subst hk
      refine lv_lstore hx hb (dcT hd) hL.has (by rw [← hL.2.1]; exact hi) rfl (fun sl2 hl2 => ?_)
      exact hz p e R s m args below meth c H locs cells slots mc ms sl2 Z hC hRt hR hS (hL.st2 hi hlg hl2) h1 h2 h3 h4 _ (nxT hn)
    case iinc k n =>
      simp only [mm_ok, Bool.and_eq_true] at hok
      obtain ⟨hd, hn, hk, hv⟩ := hok
      have hk := of_decide_eq_true hk
      subst hk
      have hv : cv = _ := of_decide_eq_true hv
      subst hv
      obtain ⟨x, hl, hz⟩ := mm_ldI_inv hq
      obtain ⟨hi, hz, hlg⟩ := mm_st_inv hz
      obtain ⟨k2, hk2⟩ := List.getElem?_of_mem (mm_pl_in (g := g) hl rfl)
      refine lv_iinc hx hb (dcT hd) hL.has hk2 rfl (by rw [← hL.2.1]; exact hi) rfl (fun sl2 hl2 => ?_)
      exact hz p e R s m args below meth c H locs cells slots mc ms sl2 Z hC hRt hR hS (hL.st hi hlg hl2) h1 h2 h3 h4 _ (nxT hn)
    case iconst n =>
      simp only [mm_ok, Bool.and_eq_true] at hok
      obtain ⟨hd, hn, hv⟩ := hok
      have hv : cv = _ := of_decide_eq_true hv
      subst hv
      refine lv_iconst hx hb (dcT hd) rfl ?_
      exact hgo hq hL (nxT hn)
    case bipush n =>
      simp only [mm_ok, Bool.and_eq_true] at hok
      obtain ⟨hd, hn, hv⟩ := hok
      have hv : cv = _ := of_decide_eq_true hv
      subst hv
      refine lv_bipush hx hb (dcT hd) rfl ?_
      exact hgo hq hL (nxT hn)
    case sipush n =>
      simp only [mm_ok, Bool.and_eq_true] at hok
      obtain ⟨hd, hn, hv⟩ := hok
      have hv : cv = _ := of_decide_eq_true hv
      subst hv
      refine lv_sipush hx hb (dcT hd) rfl ?_
      exact hgo hq hL (nxT hn)
    case lconst n =>
      simp only [mm_ok, Bool.and_eq_true] at hok
      obtain ⟨hd, hn, hv⟩ := hok
      have hv : cv = _ := of_decide_eq_true hv
      subst hv
      refine lv_lconst hx hb (dcT hd) rfl ?_
      exact hgo hq hL (nxT hn)
    case ldc k =>
      simp only [mm_ok, Bool.and_eq_true] at hok
      obtain ⟨hd, hn, hv⟩ := hok
      cases cv <;> first
        | (cases hv; done)
        | (refine lv_ldc hx hb hown (hts _ (mm_wd_in hv)) (dcT hd) ?_
           exact hgo hq hL (nxT hn))
    case ldc_w k =>
      simp only [mm_ok, Bool.and_eq_true] at hok
      obtain ⟨hd, hn, hv⟩ := hok
      cases cv <;> first
        | (cases hv; done)
        | (refine lv_ldcw hx hb hown (hts _ (mm_wd_in hv)) (dcT hd) ?_
           exact hgo hq hL (nxT hn))
    case ldc2_w k =>
      simp only [mm_ok, Bool.and_eq_true] at hok
      obtain ⟨hd, hn, hv⟩ := hok
      cases cv <;> first
        | (cases hv; done)
        | (refine lv_ldc2 hx hb hown (hts _ (mm_wd_in hv)) (dcT hd) ?_
           exact hgo hq hL (nxT hn))
    case getstatic k =>
      simp only [mm_ok, Bool.and_eq_true] at hok
      obtain ⟨hd, hn, hv⟩ := hok
      obtain ⟨hv1, hv2⟩ := mm_nw_in hv
      refine va_getsN hx hb hT.2.2.2.2.1 hS hown (va_Nw.use (mm_nest_tab hv1) (hT.2.1 _ hv2 hv1)) (fun _ z => z) (dcT hd) ?_
      exact hgo hq hL (nxT hn)
    case iadd =>
      simp only [mm_ok, Bool.and_eq_true] at hok
      obtain ⟨hd, hn⟩ := hok
      obtain ⟨x0, x1, r, rfl, hz⟩ := mm_i2_inv hq
      refine lv_iadd hx hb (dcT hd) ?_
      exact hgo hz hL (nxT hn)
    case isub =>
      simp only [mm_ok, Bool.and_eq_true] at hok
      obtain ⟨hd, hn⟩ := hok
      obtain ⟨x0, x1, r, rfl, hz⟩ := mm_i2_inv hq
      refine lv_isub hx hb (dcT hd) ?_
      exact hgo hz hL (nxT hn)
    case imul =>
      simp only [mm_ok, Bool.and_eq_true] at hok
      obtain ⟨hd, hn⟩ := hok
      obtain ⟨x0, x1, r, rfl, hz⟩ := mm_i2_inv hq
      refine lv_imul hx hb (dcT hd) ?_
      exact hgo hz hL (nxT hn)
    case iand =>
      simp only [mm_ok, Bool.and_eq_true] at hok
      obtain ⟨hd, hn⟩ := hok
      obtain ⟨x0, x1, r, rfl, hz⟩ := mm_i2_inv hq
      refine lv_iand hx hb (dcT hd) ?_
      exact hgo hz hL (nxT hn)
    case ior =>
      simp only [mm_ok, Bool.and_eq_true] at hok
      obtain ⟨hd, hn⟩ := hok
      obtain ⟨x0, x1, r, rfl, hz⟩ := mm_i2_inv hq
      refine lv_ior hx hb (dcT hd) ?_
      exact hgo hz hL (nxT hn)
    case ixor =>
      simp only [mm_ok, Bool.and_eq_true] at hok
      obtain ⟨hd, hn⟩ := hok
      obtain ⟨x0, x1, r, rfl, hz⟩ := mm_i2_inv hq
      refine lv_ixor hx hb (dcT hd) ?_
      exact hgo hz hL (nxT hn)
    case ishl =>
      simp only [mm_ok, Bool.and_eq_true] at hok
      obtain ⟨hd, hn⟩ := hok
      obtain ⟨x0, x1, r, rfl, hz⟩ := mm_i2_inv hq
      refine lv_ishl hx hb (dcT hd) ?_
      exact hgo hz hL (nxT hn)
    case ishr =>
      simp only [mm_ok, Bool.and_eq_true] at hok
      obtain ⟨hd, hn⟩ := hok
      obtain ⟨x0, x1, r, rfl, hz⟩ := mm_i2_inv hq
      refine lv_ishr hx hb (dcT hd) ?_
      exact hgo hz hL (nxT hn)
    case iushr =>
      simp only [mm_ok, Bool.and_eq_true] at hok
      obtain ⟨hd, hn⟩ := hok
      obtain ⟨x0, x1, r, rfl, hz⟩ := mm_i2_inv hq
      refine lv_iushr hx hb (dcT hd) rfl ?_
      exact hgo hz hL (nxT hn)
    case idiv =>
      simp only [mm_ok, Bool.and_eq_true] at hok
      obtain ⟨hd, hn⟩ := hok
      obtain ⟨x0, x1, r, rfl, hz⟩ := mm_i2_inv hq
      refine lv_idiv hx hb (dcT hd) hz.1 ?_
      exact hgo hz.2 hL (nxT hn)
    case irem =>
      simp only [mm_ok, Bool.and_eq_true] at hok
      obtain ⟨hd, hn⟩ := hok
      obtain ⟨x0, x1, r, rfl, hz⟩ := mm_i2_inv hq
      refine lv_irem hx hb (dcT hd) hz.1 ?_
      exact hgo hz.2 hL (nxT hn)
    case ladd =>
      simp only [mm_ok, Bool.and_eq_true] at hok
      obtain ⟨hd, hn⟩ := hok
      obtain ⟨x0, x1, r, rfl, hz⟩ := mm_l2_inv hq
      refine lv_ladd hx hb (dcT hd) ?_
      exact hgo hz hL (nxT hn)
    case lmul =>
      simp only [mm_ok, Bool.and_eq_true] at hok
      obtain ⟨hd, hn⟩ := hok
      obtain ⟨x0, x1, r, rfl, hz⟩ := mm_l2_inv hq
      refine lv_lmul hx hb (dcT hd) ?_
      exact hgo hz hL (nxT hn)
    case lcmp =>
      simp only [mm_ok, Bool.and_eq_true] at hok
      obtain ⟨hd, hn⟩ := hok
      obtain ⟨x0, x1, r, rfl, hz⟩ := mm_l2_inv hq
      refine W.lcmp hx hb (dcT hd) ?_
      exact hgo hz hL (nxT hn)
    case ldiv =>
      simp only [mm_ok, Bool.and_eq_true] at hok
      obtain ⟨hd, hn⟩ := hok
      obtain ⟨x0, x1, r, rfl, hz⟩ := mm_l2_inv hq
      refine lv_ldiv hx hb (dcT hd) hz.1 ?_
      exact hgo hz.2 hL (nxT hn)
    case lrem =>
      simp only [mm_ok, Bool.and_eq_true] at hok
      obtain ⟨hd, hn⟩ := hok
      obtain ⟨x0, x1, r, rfl, hz⟩ := mm_l2_inv hq
      refine lv_lrem hx hb (dcT hd) hz.1 ?_
      exact hgo hz.2 hL (nxT hn)
    case ineg =>
      simp only [mm_ok, Bool.and_eq_true] at hok
      obtain ⟨hd, hn⟩ := hok
      obtain ⟨x0, r, rfl, hz⟩ := mm_i1_inv hq
      refine lv_ineg hx hb (dcT hd) ?_
      exact hgo hz hL (nxT hn)
    case i2l =>
      simp only [mm_ok, Bool.and_eq_true] at hok
      obtain ⟨hd, hn⟩ := hok
      obtain ⟨x0, r, rfl, hz⟩ := mm_i1_inv hq
      refine lv_i2l hx hb (dcT hd) rfl ?_
      exact hgo hz hL (nxT hn)
    case i2b =>
      simp only [mm_ok, Bool.and_eq_true] at hok
      obtain ⟨hd, hn⟩ := hok
      obtain ⟨x0, r, rfl, hz⟩ := mm_i1_inv hq
      refine lv_i2b hx hb (dcT hd) rfl ?_
      exact hgo hz hL (nxT hn)
    case l2i =>
      simp only [mm_ok, Bool.and_eq_true] at hok
      obtain ⟨hd, hn⟩ := hok
      obtain ⟨x0, r, rfl, hz⟩ := mm_l1_inv hq
      refine lv_l2i hx hb (dcT hd) rfl ?_
      exact hgo hz hL (nxT hn)
    case dup =>
      simp only [mm_ok, Bool.and_eq_true] at hok
      obtain ⟨hd, hn⟩ := hok
      obtain ⟨x0, r, rfl, hz⟩ := mm_v1_inv hq
      obtain ⟨hc, hz⟩ := mm_b1_inv hz
      refine lv_dup hx hb (dcT hd) (by rw [mm_tr_cat]; exact Nat.eq_of_beq_eq_true hc) ?_
      exact hgo hz hL (nxT hn)
    case pop =>
      simp only [mm_ok, Bool.and_eq_true] at hok
      obtain ⟨hd, hn⟩ := hok
      obtain ⟨x0, r, rfl, hz⟩ := mm_v1_inv hq
      obtain ⟨hc, hz⟩ := mm_b1_inv hz
      refine lv_pop hx hb (dcT hd) (by rw [mm_tr_cat]; exact Nat.eq_of_beq_eq_true hc) ?_
      exact hgo hz hL (nxT hn)
    case dup2 =>
      simp only [mm_ok, Bool.and_eq_true] at hok
      obtain ⟨hd, hn⟩ := hok
      obtain ⟨x0, x1, r, rfl, hz⟩ := mm_v2_inv hq
      obtain ⟨hc, hz⟩ := mm_b1_inv hz
      rw [Bool.and_eq_true] at hc
      refine lv_dup2_11 hx hb (dcT hd) (by rw [mm_tr_cat]; exact Nat.eq_of_beq_eq_true hc.1) (by rw [mm_tr_cat]; exact Nat.eq_of_beq_eq_true hc.2) ?_
      exact hgo hz hL (nxT hn)
    case ifCond cd off =>
      simp only [mm_ok, Bool.and_eq_true] at hok
      obtain ⟨hd, hn, ht⟩ := hok
      obtain ⟨t, t1, t2⟩ := mm_tgt_inv ht
      cases cd
      case eq =>
        obtain ⟨x0, r, rfl, hz⟩ := mm_i1_inv hq
        exact lv_if_eq hx hb (dcT hd) t2 (fun q => hgo (hz.1 q) hL t1) (fun q => hgo (hz.2 q) hL (nxT hn))
      case ne =>
        obtain ⟨x0, r, rfl, hz⟩ := mm_i1_inv hq
        exact lv_if_ne hx hb (dcT hd) t2 (fun q => hgo (hz.1 q) hL t1) (fun q => hgo (hz.2 q) hL (nxT hn))
      case lt =>
        obtain ⟨x0, r, rfl, hz⟩ := mm_i1_inv hq
        exact lv_if_lt hx hb (dcT hd) t2 (fun q => hgo (hz.1 q) hL t1) (fun q => hgo (hz.2 q) hL (nxT hn))
      case ge =>
        obtain ⟨x0, r, rfl, hz⟩ := mm_i1_inv hq
        exact lv_if_ge hx hb (dcT hd) t2 (fun q => hgo (hz.1 q) hL t1) (fun q => hgo (hz.2 q) hL (nxT hn))
      case gt =>
        obtain ⟨x0, r, rfl, hz⟩ := mm_i1_inv hq
        exact lv_if_gt hx hb (dcT hd) t2 (fun q => hgo (hz.1 q) hL t1) (fun q => hgo (hz.2 q) hL (nxT hn))
      case le =>
        obtain ⟨x0, r, rfl, hz⟩ := mm_i1_inv hq
        exact lv_if_le hx hb (dcT hd) t2 (fun q => hgo (hz.1 q) hL t1) (fun q => hgo (hz.2 q) hL (nxT hn))
    case if_icmp cd off =>
      simp only [mm_ok, Bool.and_eq_true] at hok
      obtain ⟨hd, hn, ht⟩ := hok
      obtain ⟨t, t1, t2⟩ := mm_tgt_inv ht
      cases cd
      case eq =>
        obtain ⟨x0, x1, r, rfl, hz⟩ := mm_i2_inv hq
        exact lv_icmp_eq hx hb (dcT hd) t2 (fun q => hgo (hz.1 q) hL t1) (fun q => hgo (hz.2 q) hL (nxT hn))
      case ne =>
        obtain ⟨x0, x1, r, rfl, hz⟩ := mm_i2_inv hq
        exact lv_icmp_ne hx hb (dcT hd) t2 (fun q => hgo (hz.1 q) hL t1) (fun q => hgo (hz.2 q) hL (nxT hn))
      case lt =>
        obtain ⟨x0, x1, r, rfl, hz⟩ := mm_i2_inv hq
        exact lv_icmp_lt hx hb (dcT hd) t2 (fun q => hgo (hz.1 q) hL t1) (fun q => hgo (hz.2 q) hL (nxT hn))
      case ge =>
        obtain ⟨x0, x1, r, rfl, hz⟩ := mm_i2_inv hq
        exact lv_icmp_ge hx hb (dcT hd) t2 (fun q => hgo (hz.1 q) hL t1) (fun q => hgo (hz.2 q) hL (nxT hn))
      case gt =>
        obtain ⟨x0, x1, r, rfl, hz⟩ := mm_i2_inv hq
        exact lv_icmp_gt hx hb (dcT hd) t2 (fun q => hgo (hz.1 q) hL t1) (fun q => hgo (hz.2 q) hL (nxT hn))
      case le =>
        obtain ⟨x0, x1, r, rfl, hz⟩ := mm_i2_inv hq
        exact lv_icmp_le hx hb (dcT hd) t2 (fun q => hgo (hz.1 q) hL t1) (fun q => hgo (hz.2 q) hL (nxT hn))
    case goto off =>
      simp only [mm_ok, Bool.and_eq_true] at hok
      obtain ⟨hd, ht⟩ := hok
      obtain ⟨t, t1, t2⟩ := mm_tgt_inv ht
      exact lv_goto hx hb (dcT hd) t2 (hgo hq hL t1)
    case tableswitch df lo hi offs =>
      simp only [mm_ok, Bool.and_eq_true] at hok
      obtain ⟨hd, ht, hsw, hhi⟩ := hok
      have hhi : hi + 1 = lo + (offs.size : Int) := of_decide_eq_true hhi
      obtain ⟨x0, r, rfl, hz⟩ := mm_i1_inv hq
      have hdec : ∃ len, decode (mm_by μ) pc' = .ok (.tableswitch df lo hi offs, len) := by
        split at hd
        · rename_i j len ej
          have e2 : j = _ := of_decide_eq_true hd
          subst e2
          exact ⟨len, ej⟩
        · cases hd
      obtain ⟨len, hdec⟩ := hdec
      obtain ⟨t, t1, t2⟩ := mm_tgt_inv ht
      rcases mm_sw_hit hsw hz with ⟨q1, q2⟩ | ⟨k, off, t', tp, q1, q2, q3, q4, q5⟩
      · refine lv_tableOut hx hb hdec ?_ t2 (hgo q2 hL t1)
        simp only [Array.length_toList] at q1
        omega
      · have hkl : k < offs.size := by
          have := (List.getElem?_eq_some_iff.mp q2).1
          simpa using this
        refine lv_tableIn hx hb hdec (by omega) (by omega) (off := off) ?_ q5 (hgo q3 hL q4)
        have e1 : (x0.toInt - lo).toNat = k := by omega
        rw [e1, ← Array.getElem?_toList]
        exact q2
    case newarray t =>
      simp only [mm_ok, Bool.and_eq_true] at hok
      obtain ⟨hd, hn, hty, hwd⟩ := hok
      have hty := of_decide_eq_true hty
      subst hty
      obtain ⟨n, r, rfl, z1, z2, z3, z4, hz⟩ := mm_i1_inv hq
      refine mm_newi hx hb (hts _ (mm_wd_in hwd)) hT.1 hR hS z1 z2 (by omega) (by omega) (by omega) (dcT hd) (fun H1 hR1 hS1 => ?_)
      exact hz p e R s m args below meth c H1 locs _ _ mc ms sl Z hC hRt hR1 hS1 hL (by show cells + 1 + (al.1 - 1) ≤ mc; omega) (by show slots + n.toNatClampNeg + (al.2 - n.toNatClampNeg) ≤ ms; omega) h3 h4 _ (nxT hn)
    case anewarray k =>
      simp only [mm_ok, Bool.and_eq_true, Bool.or_eq_true] at hok
      obtain ⟨hd, hn, hcl⟩ := hok
      obtain ⟨n, r, rfl, z1, z2, z3, z4, hz⟩ := mm_i1_inv hq
      have key : ∃ r : vw_C, (a = 1 ∨ a = 3) ∧ mm_cls[a]? = some r ∧ (Cond.classLink (mm_ow μ) k r.1).before args s = true ∧ va_AO r.1 s := by
        rcases hcl with ⟨e1, e2⟩ | ⟨e1, e2⟩
        · have e1 := Nat.eq_of_beq_eq_true e1
          subst e1
          exact ⟨_, Or.inl rfl, rfl, hts _ (mm_wd_in e2), hT.2.2.1⟩
        · have e1 := Nat.eq_of_beq_eq_true e1
          subst e1
          exact ⟨_, Or.inr rfl, rfl, hts _ (mm_wd_in e2), hT.2.2.2.1⟩
      obtain ⟨rc, ka, kb, kc, kd⟩ := key
      refine mm_newr hx hb hown ka kb kc kd hT.1 hR hS z1 z2 (by omega) (by omega) (by omega) (dcT hd) (fun H1 hR1 hS1 => ?_)
      exact hz p e R s m args below meth c H1 locs _ _ mc ms sl Z hC hRt hR1 hS1 hL (by show cells + 1 + (al.1 - 1) ≤ mc; omega) (by show slots + n.toNatClampNeg + (al.2 - n.toNatClampNeg) ≤ ms; omega) h3 h4 _ (nxT hn)
    case new k =>
      simp only [mm_ok, Bool.and_eq_true] at hok
      obtain ⟨hd, hn, hkl⟩ := hok
      obtain ⟨C, T, N, hcl, hw⟩ := mm_kl_inv hkl
      simp only [Bool.and_eq_true] at hw
      obtain ⟨w1, w2, w3, w4⟩ := hw
      have w4 : (mm_def a).length = N := of_decide_eq_true w4
      obtain ⟨z1, z2, z3, hz⟩ := hq
      refine mm_new hx hb hts hown hT.1 hR hS hcl (hts _ (mm_wd_in w1)) (hts _ (mm_wd_in w2)) (hts _ (mm_wd_in w3)) z1 (by omega) (by omega) (dcT hd) (fun H1 hR1 hS1 => ?_)
      exact hz p e R s m args below meth c H1 locs _ _ mc ms sl Z hC hRt hR1 hS1 hL (by show cells + 1 + (al.1 - 1) ≤ mc; omega) (by show slots + N + (al.2 - (mm_def a).length) ≤ ms; omega) h3 h4 _ (nxT hn)
    case getfield k =>
      simp only [mm_ok, Bool.and_eq_true] at hok
      obtain ⟨hd, hn, hkl⟩ := hok
      obtain ⟨C, T, N, hcl, hw⟩ := mm_kl_inv hkl
      simp only [Bool.and_eq_true] at hw
      obtain ⟨w1, w2⟩ := hw
      have w1 : b < N := by simpa [Nat.blt_eq] using w1
      obtain ⟨o, r, rfl, hz⟩ := mm_r1_inv hq
      obtain ⟨fs, eo, hz⟩ := mm_obj_inv hz
      obtain ⟨v, hv, hz⟩ := mm_ld_inv hz
      obtain ⟨ha7, hkn⟩ := mm_kn_of hcl
      obtain ⟨o2, o3, hws⟩ := hR.obj eo (by omega)
      refine va_get (D := gvD g) (ci := a) (C := C) (T := T) (N := N) (Ts := mm_gt) hx hb hts hkn.1 hown hT.1 hR.2.2.2.2.2 (o - 2) hws hcl b w1 (hts _ (mm_wd_in w2)) (fun _ z => z) (v := mm_tr g v) (by rw [List.getElem?_map, hv]; rfl) (dcT hd) ?_
      exact hgo hz hL (nxT hn)
    case putfield k =>
      simp only [mm_ok, Bool.and_eq_true] at hok
      obtain ⟨hd, hn, hkl⟩ := hok
      obtain ⟨C, T, N, hcl, hw⟩ := mm_kl_inv hkl
      simp only [Bool.and_eq_true, Bool.or_eq_true] at hw
      obtain ⟨w1, w2, w3, w4⟩ := hw
      have w1 : b < N := by simpa [Nat.blt_eq] using w1
      obtain ⟨v, o, r, rfl, hz⟩ := mm_vr_inv hq
      obtain ⟨fs, eo, hz⟩ := mm_obj_inv hz
      obtain ⟨dv, hdv, hz⟩ := mm_ld_inv hz
      obtain ⟨hfit, hz⟩ := mm_b1_inv hz
      obtain ⟨hl, hz⟩ := mm_set_inv hz
      rw [hdv] at w3
      have hfin : (T b).2.2.2 = false ∨ ((T b).2.2.2 = true ∧ meth.name = "<init>" ∧ (T b).1 = mm_ow μ) := by
        cases hf : (T b).2.2.2 with
        | false => exact Or.inl rfl
        | true =>
          rw [hf] at w4
          rcases w4 with w4 | ⟨w4, w5⟩
          · cases w4
          · exact Or.inr ⟨rfl, hin w4, of_decide_eq_true w5⟩
      refine mm_put hx hb hts hown hT.1 hR hS hcl w1 (hts _ (mm_wd_in w2)) w3 hfin eo hfit hl (dcT hd) (fun H1 locs1 hR1 hS1 => ?_)
      exact hz p e R s m args below meth c H1 locs1 _ _ mc ms sl Z hC hRt hR1 hS1 hL h1 h2 h3 h4 _ (nxT hn)
    case iaload =>
      simp only [mm_ok, Bool.and_eq_true] at hok
      obtain ⟨hd, hn⟩ := hok
      obtain ⟨i, o, r, rfl, hz⟩ := mm_ir_inv hq
      obtain ⟨n, f, eo, hi, hz⟩ := mm_arr_inv hz
      rcases eo with eo | eo
      · obtain ⟨o2, o3, hws⟩ := hR.ints eo
        refine va_iald (D := gvD g) hx hb hT.1 hR.2.2.2.2.2 (o - 2) 0 hws rfl hi (dcT hd) ?_
        exact hgo hz hL (nxT hn)
      · have nb : ¬ mm_A g (gvb g) := Nat.not_le.mpr hT.2.2.2.2.2.2.2.2.1
        have nt : ¬ mm_A g (gvt g) := Nat.not_le.mpr hT.2.2.2.2.2.2.2.1
        have hz9 := hT.2.2.2.2.2.2.2.2.2
        have hb9 := hT.2.2.2.2.2.2.2.2.1
        have ht9 := hT.2.2.2.2.2.2.2.1
        rcases hR.ext eo with ⟨rfl, rfl, rfl⟩ | ⟨rfl, rfl, rfl⟩
        · refine va_sld hx hb hT.2.2.2.2.2.2.1 (Nat.lt_of_lt_of_le hb9 hz9) nb hS hi (dcT hd) ?_
          exact hgo hz hL (nxT hn)
        · refine va_ti hx hb hT.2.2.2.2.2.1 hS hi rfl (dcT hd) ?_
          exact hgo hz hL (nxT hn)
    case iastore =>
      simp only [mm_ok, Bool.and_eq_true] at hok
      obtain ⟨hd, hn⟩ := hok
      obtain ⟨x, i, o, r, rfl, hz⟩ := mm_iir_inv hq
      obtain ⟨n, f, eo, hi, hz⟩ := mm_arw_inv hz
      refine mm_iast hx hb hT.1 hR hS eo hi (dcT hd) (fun H1 locs1 hR1 hS1 => ?_)
      exact hz p e R s m args below meth c H1 locs1 _ _ mc ms sl Z hC hRt hR1 hS1 hL h1 h2 h3 h4 _ (nxT hn)
    case aaload =>
      simp only [mm_ok, Bool.and_eq_true] at hok
      obtain ⟨hd, hn⟩ := hok
      obtain ⟨i, o, r, rfl, hz⟩ := mm_ir_inv hq
      obtain ⟨cc, n, f, eo, hi, k, hk, hz⟩ := mm_rar_inv hz
      obtain ⟨o2, o3, hci, hws⟩ := hR.refs eo
      obtain ⟨t0, rc, hc, ht⟩ := mm_ca_ty (g := g) hci
      refine va_aldq (D := gvD g) hx hb hT.1 hR.2.2.2.2.2 (o - 2) t0 hws ht hi (dcT hd) ?_
      rw [hk]
      exact hgo hz hL (nxT hn)
    case aastore =>
      simp only [mm_ok, Bool.and_eq_true] at hok
      obtain ⟨hd, hn⟩ := hok
      obtain ⟨v, i, o, r, rfl, hz⟩ := mm_rir_inv hq
      obtain ⟨cc, n, f, eo, hi, hz⟩ := mm_rar_inv hz
      obtain ⟨fs, ev, hz⟩ := mm_obj_inv hz
      refine mm_aast hx hb hT.1 hR hS eo ev hi (dcT hd) (fun H1 locs1 hR1 hS1 => ?_)
      exact hz p e R s m args below meth c H1 locs1 _ _ mc ms sl Z hC hRt hR1 hS1 hL h1 h2 h3 h4 _ (nxT hn)
    case arraylength =>
      simp only [mm_ok, Bool.and_eq_true] at hok
      obtain ⟨hd, hn⟩ := hok
      obtain ⟨o, r, rfl, hz⟩ := mm_r1_inv hq
      unfold mm_alen at hz
      split at hz
      · rename_i n f eo
        obtain ⟨o2, o3, hws⟩ := hR.ints (o := o) (n := n) (f := f) eo
        refine va_alen (D := gvD g) hx hb hT.1 hR.2.2.2.2.2 (o - 2) 0 hws (ty := .int) rfl rfl (dcT hd) ?_
        exact hgo hz hL (nxT hn)
      · rename_i n f eo
        have nb : ¬ mm_A g (gvb g) := Nat.not_le.mpr hT.2.2.2.2.2.2.2.2.1
        have nt : ¬ mm_A g (gvt g) := Nat.not_le.mpr hT.2.2.2.2.2.2.2.1
        have hz9 := hT.2.2.2.2.2.2.2.2.2
        have hb9 := hT.2.2.2.2.2.2.2.2.1
        have ht9 := hT.2.2.2.2.2.2.2.1
        rcases hR.ext (o := o) (n := n) (f := f) eo with ⟨rfl, rfl, rfl⟩ | ⟨rfl, rfl, rfl⟩
        · refine va_slen hx hb hT.2.2.2.2.2.2.1 (Nat.lt_of_lt_of_le hb9 hz9) nb hS (dcT hd) ?_
          exact hgo hz hL (nxT hn)
        · refine va_tlen hx hb hT.2.2.2.2.2.1 hS rfl (dcT hd) ?_
          exact hgo hz hL (nxT hn)
      · rename_i ci n f eo
        obtain ⟨o2, o3, hci, hws⟩ := hR.refs (o := o) (ci := ci) (n := n) (f := f) eo
        obtain ⟨t0, rc, hc, ht⟩ := mm_ca_ty (g := g) hci
        refine va_alen (D := gvD g) hx hb hT.1 hR.2.2.2.2.2 (o - 2) t0 hws ht rfl (dcT hd) ?_
        exact hgo hz hL (nxT hn)
      · exact hz.elim
    case ireturn =>
      simp only [mm_ok, Bool.and_eq_true, Bool.or_eq_true] at hok
      obtain ⟨hd, hrt⟩ := hok
      unfold mm_stepI at hq
      dsimp only at hq
      split at hq
      · rename_i x
        rcases hrt with hrt | hrt
        · have hrt : mm_rt μ = some .int := of_decide_eq_true hrt
          rw [hrt] at hq
          exact hRt H locs cells slots pc' sl (some (.int x)) h .ireturn hq hR hS (by omega) (by omega) (dcT hd) (Or.inl ⟨rfl, x, rfl, Or.inl hrt⟩)
        · have hrt : mm_rt μ = some .boolean := of_decide_eq_true hrt
          rw [hrt] at hq
          exact hRt H locs cells slots pc' sl (some (.int x)) h .ireturn hq.2 hR hS (by omega) (by omega) (dcT hd) (Or.inl ⟨rfl, x, rfl, Or.inr ⟨hrt, hq.1⟩⟩)
      · exact hq.elim
    case lreturn =>
      simp only [mm_ok, Bool.and_eq_true] at hok
      obtain ⟨hd, hrt⟩ := hok
      have hrt : mm_rt μ = some .long := of_decide_eq_true hrt
      unfold mm_stepI at hq
      dsimp only at hq
      split at hq
      · rename_i x
        exact hRt H locs cells slots pc' sl (some (.long x)) h .lreturn hq hR hS (by omega) (by omega) (dcT hd) (Or.inr (Or.inl ⟨rfl, hrt, x, rfl⟩))
      · exact hq.elim
    case return_ =>
      simp only [mm_ok, Bool.and_eq_true] at hok
      obtain ⟨hd, hrt⟩ := hok
      have hrt : mm_rt μ = none := of_decide_eq_true hrt
      unfold mm_stepI at hq
      dsimp only at hq
      split at hq
      · exact hRt H locs cells slots pc' sl none h .return_ hq hR hS (by omega) (by omega) (dcT hd) (Or.inr (Or.inr ⟨rfl, hrt, rfl⟩))
      · exact hq.elim
    case invokestatic k =>
      simp only [mm_ok, Bool.and_eq_true] at hok
      obtain ⟨hd, hn, hok⟩ := hok
      have hq : mm_bb (Nat.beq a 1001) _ _ := hq
      cases hba : Nat.beq a 1001 with
      | true =>
        rw [hba] at hq hok
        simp only [cond_true, Bool.and_eq_true] at hok
        obtain ⟨w1, w2, w3, w4⟩ := hok
        obtain ⟨n, dp, o1, sp, o0, r, rfl, hz⟩ := mm_iirir_inv hq
        obtain ⟨hfew, hz⟩ := mm_few_inv hz
        obtain ⟨d', rfl, hz⟩ := mm_dd_inv hz
        obtain ⟨n0, f, e0, hz⟩ := mm_arw_inv hz
        obtain ⟨n1, f1, e1, hful, ⟨c1, c2, c3, c4, c5⟩, hz⟩ := mm_arw_inv hz
        obtain ⟨o02, o03, hw0⟩ := hR.ints e0
        obtain ⟨o12, o13, hw1⟩ := hR.ints e1
        have hcat := mm_cats r hfew g
        refine va_copyi (D := gvD g) hx hb (by rw [hml, hL.1]) hown (hts _ (mm_wd_in w1)) (hts _ (mm_wd_in w2)) (hts _ (mm_wd_in w3)) (hts _ (mm_wd_in w4)) hT.1 hR.2.2.2.2.2 (mm_ws_D g h) hS (o0 - 2) (o1 - 2) 0 0 hw0 hw1 (ty := .int) rfl rfl rfl c1 c2 c3 c4 c5 (fun _ _ => rfl) (by omega) ?_ (dcT hd) (fun H1 locs1 hP1 hD1 hS1 => ?_)
        · have : nativeFrameWords "java/lang/System" "arraycopy" 5 = 7 := by decide
          rw [this]
          omega
        · exact hz p e R s m args below meth c H1 locs1 _ _ mc ms sl Z hC hRt (hR.put o12 o13 (fun q => absurd q (by omega)) hP1) hS1 hL h1 h2 h3 h4 _ (nxT hn)
      | false =>
        rw [hba] at hq hok
        simp only [cond_false] at hok
        have hq : mm_bb (Nat.beq a 1002) _ _ := hq
        cases hb2 : Nat.beq a 1002 with
        | true =>
          rw [hb2] at hq hok
          simp only [cond_true, Bool.and_eq_true] at hok
          obtain ⟨w1, w2, w3, w4⟩ := hok
          obtain ⟨y, x, r, rfl, hz⟩ := mm_i2_inv hq
          obtain ⟨hfew, hz⟩ := mm_few_inv hz
          obtain ⟨d', rfl, hz⟩ := mm_dd_inv hz
          have hcat := mm_cats r hfew g
          refine va_mmax hx hb (by rw [hml, hL.1]) hown (hts _ (mm_wd_in w1)) (hts _ (mm_wd_in w2)) (hts _ (mm_wd_in w3)) (hts _ (mm_wd_in w4)) (by omega) (by omega) (by omega) (by omega) (dcT hd) ?_
          exact hgo hz hL (nxT hn)
        | false =>
          rw [hb2] at hq hok
          simp only [cond_false] at hok
          have hq : mm_bb (Nat.beq a 1003) _ _ := hq
          cases hb3 : Nat.beq a 1003 with
          | true =>
            rw [hb3] at hq hok
            simp only [cond_true, Bool.and_eq_true] at hok
            obtain ⟨w1, w2, w3, w4⟩ := hok
            obtain ⟨y, x, r, rfl, hz⟩ := mm_i2_inv hq
            obtain ⟨hfew, hz⟩ := mm_few_inv hz
            obtain ⟨d', rfl, hz⟩ := mm_dd_inv hz
            have hcat := mm_cats r hfew g
            refine va_mmin hx hb (by rw [hml, hL.1]) hown (hts _ (mm_wd_in w1)) (hts _ (mm_wd_in w2)) (hts _ (mm_wd_in w3)) (hts _ (mm_wd_in w4)) (by omega) (by omega) (by omega) (by omega) (dcT hd) ?_
            exact hgo hz hL (nxT hn)
          | false =>
            rw [hb3] at hq hok
            simp only [cond_false, Bool.and_eq_true] at hok
            obtain ⟨hcal, w1⟩ := hok
            obtain ⟨ha, hlk, hpar⟩ := mm_cal_inv hcal
            have hm := hmth a ha
            obtain ⟨m1, m2, m3, m4, m5, m6, m7, m8⟩ := mm_mth_inv hm
            obtain ⟨as, rest, hlen, rfl, hz⟩ := mm_pop_inv hq
            rw [List.append_nil] at hz
            refine mm_inv_W hz ha hm hC hRt hR hS hL h1 h2 h3 h4 (nxT hn) (fun d' K hdd hfew hM hroom hcs => ?_)
            rw [mm_map_rev]
            rcases hlk with hlk | hlk
            · exact ⟨_, va_runS (As := as.map (mm_tr g)) ⟨hx, hb, hml, hown, hts⟩ hM ⟨callB_of b hts (mm_wsm_good hm) rfl rfl rfl (hts _ m1) (hts _ hlk) ⟨m5, m6, hpar⟩ hroom, hts _ (mm_wd_in w1)⟩ ⟨mm_Pc_blind g h as, mm_Pc_at hT hS hR⟩ rfl (by rw [List.length_map]; exact hlen) hL.1 rfl (mm_rest_W hfew) (dcT hd) hcs⟩
            · exact ⟨_, va_runSN (As := as.map (mm_tr g)) ⟨hx, hb, hml, hown, hts⟩ hM ⟨va_cnB b hts (mm_wsm_good hm) rfl rfl rfl (hT.2.1 _ hlk rfl) (hts _ m1) ⟨m5, m6, hpar⟩ hroom, hts _ (mm_wd_in w1), trivial⟩ ⟨mm_Pc_blind g h as, mm_Pc_at hT hS hR⟩ rfl (by rw [List.length_map]; exact hlen) hL.1 rfl (mm_rest_W hfew) (dcT hd) hcs⟩
    case invokevirtual k =>
      simp only [mm_ok, Bool.and_eq_true] at hok
      obtain ⟨hd, hn, hb1, hcal, w1, w2, w3⟩ := hok
      have hb1 : 1 ≤ b := of_decide_eq_true hb1
      obtain ⟨C, T, N, hcl, hC9⟩ := mm_kl_inv w3
      have hC9 : C = (mm_y a).cls := of_decide_eq_true hC9
      obtain ⟨ha, hlk, hpar⟩ := mm_cal_inv hcal
      have hm := hmth a ha
      obtain ⟨m1, m2, m3, m4, m5, m6, m7, m8⟩ := mm_mth_inv hm
      obtain ⟨as, rest, hlen, rfl, hz⟩ := mm_pop_inv hq
      rw [List.append_nil] at hz
      obtain ⟨o, as', rfl, hz⟩ := mm_r1_inv hz
      obtain ⟨fs, eo, hz⟩ := mm_obj_inv hz
      obtain ⟨ha7, hkn⟩ := mm_kn_of hcl
      obtain ⟨o2, o3, hws⟩ := hR.obj eo (by omega)
      have hrecv := va_recv hT.1 hR.2.2.2.2.2 hcl hws
      have hlen' : as'.length = b - 1 := by simp at hlen; omega
      refine mm_inv_W hz ha hm hC hRt hR hS hL h1 h2 h3 h4 (nxT hn) (fun d' K hdd hfew hM hroom hcs => ?_)
      have hst : ((Value.ref o :: as').reverse ++ rest).map (mm_tr g) = (as'.map (mm_tr g)).reverse ++ .ref (mm_ad g o) :: rest.map (mm_tr g) := by simp [mm_tr]
      rw [hst]
      rcases hlk with hlk | hlk
      · exact ⟨_, va_runV (As := as'.map (mm_tr g)) (b := mm_ad g o) (C := (mm_y a).cls) ⟨hx, hb, hml, hown, hts⟩ hM ⟨callB_of (b - 1) hts (mm_wsm_good hm) rfl rfl rfl (hts _ m1) (hts _ hlk) ⟨m5, m6, hpar⟩ hroom, hts _ (mm_wd_in w1), hts _ (mm_wd_in w2)⟩ ⟨mm_Pc_blind g h _, by rw [← hC9]; exact hrecv, mm_Pc_at hT hS hR⟩ rfl (by rw [List.length_map]; exact hlen') hL.1 rfl (mm_rest_W hfew) (dcT hd) hcs⟩
      · exact ⟨_, va_runVN (As := as'.map (mm_tr g)) (b := mm_ad g o) (C := (mm_y a).cls) ⟨hx, hb, hml, hown, hts⟩ hM ⟨va_cnB (b - 1) hts (mm_wsm_good hm) rfl rfl rfl (hT.2.1 _ hlk rfl) (hts _ m1) ⟨m5, m6, hpar⟩ hroom, hts _ (mm_wd_in w1), hts _ (mm_wd_in w2)⟩ ⟨mm_Pc_blind g h _, by rw [← hC9]; exact hrecv, mm_Pc_at hT hS hR⟩ rfl (by rw [List.length_map]; exact hlen') hL.1 rfl (mm_rest_W hfew) (dcT hd) hcs⟩
    case invokespecial k =>
      simp only [mm_ok, Bool.and_eq_true] at hok
      obtain ⟨hd, hn, hok⟩ := hok
      have hq : mm_bb (Nat.beq a 1000) _ _ := hq
      cases hba : Nat.beq a 1000 with
      | true =>
        rw [hba] at hq hok
        simp only [cond_true, Bool.and_eq_true] at hok
        obtain ⟨w1, w2, w3⟩ := hok
        obtain ⟨o, r, rfl, hz⟩ := mm_r1_inv hq
        obtain ⟨hfew, hz⟩ := mm_few_inv hz
        obtain ⟨d', rfl, hz⟩ := mm_dd_inv hz
        have hcat := mm_cats r hfew g
        refine W.objInit hx hb hown (hts _ (mm_wd_in w1)) (hts _ (mm_wd_in w2)) (hts _ (mm_wd_in w3)) rfl (by rw [hml]; exact hL.1) (rest := r.map (mm_tr g)) rfl (dcT hd) (by omega) (by show 2 * 0 + _ + 12 ≤ _; omega) ?_
        exact hgo hz hL (nxT hn)
      | false =>
        rw [hba] at hq hok
        simp only [cond_false, Bool.and_eq_true] at hok
        obtain ⟨hb1, hcal, w1, w2, w3⟩ := hok
        have hb1 : 1 ≤ b := of_decide_eq_true hb1
        have w2 : (mm_y a).name = "<init>" := of_decide_eq_true w2
        have w3 : mm_rt a = none := of_decide_eq_true w3
        obtain ⟨ha, hlk, hpar⟩ := mm_cal_inv hcal
        have hm := hmth a ha
        obtain ⟨m1, m2, m3, m4, m5, m6, m7, m8⟩ := mm_mth_inv hm
        obtain ⟨as, rest, hlen, rfl, hz⟩ := mm_pop_inv hq
        rw [List.append_nil] at hz
        obtain ⟨o, as', rfl, hz⟩ := mm_r1_inv hz
        have hlen' : as'.length = b - 1 := by simp at hlen; omega
        have hws9 : mm_wsm a = Cond.code (mm_y a) (mm_by a) (mm_ml a) none :: mm_gt := by unfold mm_wsm; rw [w3]
        refine mm_inv_W hz ha hm hC hRt hR hS hL h1 h2 h3 h4 (nxT hn) (fun d' K hdd hfew hM hroom hcs => ?_)
        have hst : ((Value.ref o :: as').reverse ++ rest).map (mm_tr g) = (as'.map (mm_tr g)).reverse ++ .ref (mm_ad g o) :: rest.map (mm_tr g) := by simp [mm_tr]
        rw [hst]
        rcases hlk with hlk | hlk
        · exact ⟨_, va_runI (As := as'.map (mm_tr g)) (b := mm_ad g o) (bytes := mm_by a) (maxL := mm_ml a) ⟨hx, hb, hml, hown, hts⟩ hM ⟨callB_of (b - 1) hts (mm_wsm_good hm) hws9 rfl rfl (hts _ m1) (hts _ hlk) ⟨m5, m6, hpar⟩ hroom, w2, hts _ (mm_wd_in w1)⟩ ⟨mm_Pc_blind g h _, mm_Pc_at hT hS hR⟩ rfl (by rw [List.length_map]; exact hlen') hL.1 rfl (mm_rest_W hfew) (dcT hd) hcs⟩
        · exact ⟨_, va_runIN (As := as'.map (mm_tr g)) (b := mm_ad g o) (bytes := mm_by a) (maxL := mm_ml a) ⟨hx, hb, hml, hown, hts⟩ hM ⟨va_cnB (b - 1) hts (mm_wsm_good hm) hws9 rfl rfl (hT.2.1 _ hlk rfl) (hts _ m1) ⟨m5, m6, hpar⟩ hroom, w2, hts _ (mm_wd_in w1)⟩ ⟨mm_Pc_blind g h _, mm_Pc_at hT hS hR⟩ rfl (by rw [List.length_map]; exact hlen') hL.1 rfl (mm_rest_W hfew) (dcT hd) hcs⟩
    all_goals exact hq.elim
/-- what the mini machine comes to, the real one comes to -/
theorem mm_sound (l : Launch) (g : mm_G) (hall : ∀ μ, μ < mm_cnt → ∀ ip q, mm_at μ ip = some q → mm_ok μ q = true) (hmth : ∀ a, a < 209 → mm_mth a = true) {d μ ip : Nat} {al : Nat × Nat} {ls st : List Value} {h : mm_H} {Q : mm_K} (q : mm_Ex d μ ip al ls st h Q) : mm_Re l g d μ ip al ls st h Q :=
  q (mm_Re l g) (mm_Re_mono l g) (mm_closed l g hall hmth)
end
