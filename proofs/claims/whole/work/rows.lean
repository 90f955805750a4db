section
-- ===== PART A: goes FIRST, ahead of the names: the tables' words, and 'selects' of the private methods out of them =====
/-- a private method of a class that the tables say can be made, by its rows of tables_1 -/
def lw_okq (q : MethodName × Nat) : Prop := (q.1.cls ≠ "java/lang/invoke/MethodHandle" ∧ q.1.cls ≠ "java/lang/invoke/VarHandle") ∧ Cond.instantiable q.1.cls q.2 ∈ tables_1 ∧ Cond.privateMethod q.1 ∈ tables_1 ∧ Cond.instanceMethod q.1 ∈ tables_1
theorem lw_p0 : lw_okq (⟨"java/util/ArrayList", "fastRemove", "([Ljava/lang/Object;I)V"⟩, 3) := ⟨⟨by decide +kernel, by decide +kernel⟩, List.mem_of_getElem? (i := 53) (by decide +kernel), List.mem_of_getElem? (i := 368) (by decide +kernel), List.mem_of_getElem? (i := 369) (by decide +kernel)⟩
theorem lw_p1 : lw_okq (⟨"MeshLines$Mesh", "moveOneFlit", "(III)V"⟩, 5) := ⟨⟨by decide +kernel, by decide +kernel⟩, List.mem_of_getElem? (i := 31) (by decide +kernel), List.mem_of_getElem? (i := 379) (by decide +kernel), List.mem_of_getElem? (i := 380) (by decide +kernel)⟩
theorem lw_p2 : lw_okq (⟨"MeshLines$Mesh", "moveFlitOf", "(IIII)Z"⟩, 5) := ⟨⟨by decide +kernel, by decide +kernel⟩, List.mem_of_getElem? (i := 31) (by decide +kernel), List.mem_of_getElem? (i := 383) (by decide +kernel), List.mem_of_getElem? (i := 384) (by decide +kernel)⟩
theorem lw_p3 : lw_okq (⟨"MeshLines$Lane", "wayTo", "(I)I"⟩, 7) := ⟨⟨by decide +kernel, by decide +kernel⟩, List.mem_of_getElem? (i := 47) (by decide +kernel), List.mem_of_getElem? (i := 399) (by decide +kernel), List.mem_of_getElem? (i := 400) (by decide +kernel)⟩
theorem lw_p4 : lw_okq (⟨"MeshLines$Mesh", "leaveMesh", "(LMeshLines$Flit;LMeshLines$Lane;)V"⟩, 5) := ⟨⟨by decide +kernel, by decide +kernel⟩, List.mem_of_getElem? (i := 31) (by decide +kernel), List.mem_of_getElem? (i := 404) (by decide +kernel), List.mem_of_getElem? (i := 405) (by decide +kernel)⟩
theorem lw_p5 : lw_okq (⟨"java/util/ArrayList", "add", "(Ljava/lang/Object;[Ljava/lang/Object;I)V"⟩, 3) := ⟨⟨by decide +kernel, by decide +kernel⟩, List.mem_of_getElem? (i := 53) (by decide +kernel), List.mem_of_getElem? (i := 412) (by decide +kernel), List.mem_of_getElem? (i := 413) (by decide +kernel)⟩
theorem lw_p6 : lw_okq (⟨"java/util/ArrayList", "grow", "()[Ljava/lang/Object;"⟩, 3) := ⟨⟨by decide +kernel, by decide +kernel⟩, List.mem_of_getElem? (i := 53) (by decide +kernel), List.mem_of_getElem? (i := 416) (by decide +kernel), List.mem_of_getElem? (i := 417) (by decide +kernel)⟩
theorem lw_p7 : lw_okq (⟨"java/util/ArrayList", "grow", "(I)[Ljava/lang/Object;"⟩, 3) := ⟨⟨by decide +kernel, by decide +kernel⟩, List.mem_of_getElem? (i := 53) (by decide +kernel), List.mem_of_getElem? (i := 420) (by decide +kernel), List.mem_of_getElem? (i := 421) (by decide +kernel)⟩
theorem lw_p8 : lw_okq (⟨"MeshLines$Mesh", "bufferBeyond", "(III)LMeshLines$FlitBuffer;"⟩, 5) := ⟨⟨by decide +kernel, by decide +kernel⟩, List.mem_of_getElem? (i := 31) (by decide +kernel), List.mem_of_getElem? (i := 461) (by decide +kernel), List.mem_of_getElem? (i := 462) (by decide +kernel)⟩
theorem lw_p9 : lw_okq (⟨"MeshLines$Node", "firstToTake", "(Ljava/util/ArrayList;)I"⟩, 5) := ⟨⟨by decide +kernel, by decide +kernel⟩, List.mem_of_getElem? (i := 183) (by decide +kernel), List.mem_of_getElem? (i := 480) (by decide +kernel), List.mem_of_getElem? (i := 481) (by decide +kernel)⟩
theorem lw_p10 : lw_okq (⟨"MeshLines$Node", "stalls", "(LMeshLines$Packet;)Z"⟩, 5) := ⟨⟨by decide +kernel, by decide +kernel⟩, List.mem_of_getElem? (i := 183) (by decide +kernel), List.mem_of_getElem? (i := 490) (by decide +kernel), List.mem_of_getElem? (i := 491) (by decide +kernel)⟩
theorem lw_p11 : lw_okq (⟨"MeshLines$Node", "take", "(LMeshLines$Packet;I)V"⟩, 5) := ⟨⟨by decide +kernel, by decide +kernel⟩, List.mem_of_getElem? (i := 183) (by decide +kernel), List.mem_of_getElem? (i := 507) (by decide +kernel), List.mem_of_getElem? (i := 508) (by decide +kernel)⟩
theorem lw_p12 : lw_okq (⟨"MeshLines$Home", "takeGets", "(I)V"⟩, 7) := ⟨⟨by decide +kernel, by decide +kernel⟩, List.mem_of_getElem? (i := 147) (by decide +kernel), List.mem_of_getElem? (i := 515) (by decide +kernel), List.mem_of_getElem? (i := 516) (by decide +kernel)⟩
theorem lw_p13 : lw_okq (⟨"MeshLines$Home", "takeGetm", "(I)V"⟩, 7) := ⟨⟨by decide +kernel, by decide +kernel⟩, List.mem_of_getElem? (i := 147) (by decide +kernel), List.mem_of_getElem? (i := 566) (by decide +kernel), List.mem_of_getElem? (i := 567) (by decide +kernel)⟩
theorem lw_p14 : lw_okq (⟨"MeshLines$Home", "takePuts", "(I)V"⟩, 7) := ⟨⟨by decide +kernel, by decide +kernel⟩, List.mem_of_getElem? (i := 147) (by decide +kernel), List.mem_of_getElem? (i := 576) (by decide +kernel), List.mem_of_getElem? (i := 577) (by decide +kernel)⟩
theorem lw_p15 : lw_okq (⟨"MeshLines$Home", "dropSharer", "(I)V"⟩, 7) := ⟨⟨by decide +kernel, by decide +kernel⟩, List.mem_of_getElem? (i := 147) (by decide +kernel), List.mem_of_getElem? (i := 580) (by decide +kernel), List.mem_of_getElem? (i := 581) (by decide +kernel)⟩
def lw_privs_1 : List (MethodName × Nat) := [(⟨"java/util/ArrayList", "fastRemove", "([Ljava/lang/Object;I)V"⟩, 3), (⟨"MeshLines$Mesh", "moveOneFlit", "(III)V"⟩, 5), (⟨"MeshLines$Mesh", "moveFlitOf", "(IIII)Z"⟩, 5), (⟨"MeshLines$Lane", "wayTo", "(I)I"⟩, 7), (⟨"MeshLines$Mesh", "leaveMesh", "(LMeshLines$Flit;LMeshLines$Lane;)V"⟩, 5), (⟨"java/util/ArrayList", "add", "(Ljava/lang/Object;[Ljava/lang/Object;I)V"⟩, 3), (⟨"java/util/ArrayList", "grow", "()[Ljava/lang/Object;"⟩, 3), (⟨"java/util/ArrayList", "grow", "(I)[Ljava/lang/Object;"⟩, 3), (⟨"MeshLines$Mesh", "bufferBeyond", "(III)LMeshLines$FlitBuffer;"⟩, 5), (⟨"MeshLines$Node", "firstToTake", "(Ljava/util/ArrayList;)I"⟩, 5), (⟨"MeshLines$Node", "stalls", "(LMeshLines$Packet;)Z"⟩, 5), (⟨"MeshLines$Node", "take", "(LMeshLines$Packet;I)V"⟩, 5), (⟨"MeshLines$Home", "takeGets", "(I)V"⟩, 7), (⟨"MeshLines$Home", "takeGetm", "(I)V"⟩, 7), (⟨"MeshLines$Home", "takePuts", "(I)V"⟩, 7), (⟨"MeshLines$Home", "dropSharer", "(I)V"⟩, 7)]
theorem lw_r1 : ∀ q ∈ lw_privs_1, lw_okq q := List.forall_mem_cons.mpr ⟨lw_p0, List.forall_mem_cons.mpr ⟨lw_p1, List.forall_mem_cons.mpr ⟨lw_p2, List.forall_mem_cons.mpr ⟨lw_p3, List.forall_mem_cons.mpr ⟨lw_p4, List.forall_mem_cons.mpr ⟨lw_p5, List.forall_mem_cons.mpr ⟨lw_p6, List.forall_mem_cons.mpr ⟨lw_p7, List.forall_mem_cons.mpr ⟨lw_p8, List.forall_mem_cons.mpr ⟨lw_p9, List.forall_mem_cons.mpr ⟨lw_p10, List.forall_mem_cons.mpr ⟨lw_p11, List.forall_mem_cons.mpr ⟨lw_p12, List.forall_mem_cons.mpr ⟨lw_p13, List.forall_mem_cons.mpr ⟨lw_p14, List.forall_mem_cons.mpr ⟨lw_p15, fun _ h => absurd h List.not_mem_nil⟩⟩⟩⟩⟩⟩⟩⟩⟩⟩⟩⟩⟩⟩⟩⟩
theorem lw_p16 : lw_okq (⟨"MeshLines$Home", "takePutm", "(II)V"⟩, 7) := ⟨⟨by decide +kernel, by decide +kernel⟩, List.mem_of_getElem? (i := 147) (by decide +kernel), List.mem_of_getElem? (i := 584) (by decide +kernel), List.mem_of_getElem? (i := 585) (by decide +kernel)⟩
theorem lw_p17 : lw_okq (⟨"MeshLines$Cache", "takeData", "(LMeshLines$Packet;)Z"⟩, 6) := ⟨⟨by decide +kernel, by decide +kernel⟩, List.mem_of_getElem? (i := 189) (by decide +kernel), List.mem_of_getElem? (i := 592) (by decide +kernel), List.mem_of_getElem? (i := 593) (by decide +kernel)⟩
theorem lw_p18 : lw_okq (⟨"MeshLines$Cache", "takeAck", "(I)Z"⟩, 6) := ⟨⟨by decide +kernel, by decide +kernel⟩, List.mem_of_getElem? (i := 189) (by decide +kernel), List.mem_of_getElem? (i := 596) (by decide +kernel), List.mem_of_getElem? (i := 597) (by decide +kernel)⟩
theorem lw_p19 : lw_okq (⟨"MeshLines$Cache", "takeInv", "(LMeshLines$Packet;)V"⟩, 6) := ⟨⟨by decide +kernel, by decide +kernel⟩, List.mem_of_getElem? (i := 189) (by decide +kernel), List.mem_of_getElem? (i := 600) (by decide +kernel), List.mem_of_getElem? (i := 601) (by decide +kernel)⟩
theorem lw_p20 : lw_okq (⟨"MeshLines$Cache", "become", "(II)V"⟩, 6) := ⟨⟨by decide +kernel, by decide +kernel⟩, List.mem_of_getElem? (i := 189) (by decide +kernel), List.mem_of_getElem? (i := 604) (by decide +kernel), List.mem_of_getElem? (i := 605) (by decide +kernel)⟩
theorem lw_p21 : lw_okq (⟨"MeshLines$Cache", "giveData", "(III)V"⟩, 6) := ⟨⟨by decide +kernel, by decide +kernel⟩, List.mem_of_getElem? (i := 189) (by decide +kernel), List.mem_of_getElem? (i := 609) (by decide +kernel), List.mem_of_getElem? (i := 610) (by decide +kernel)⟩
theorem lw_p22 : lw_okq (⟨"MeshLines$Core", "fetch", "(IZ)V"⟩, 9) := ⟨⟨by decide +kernel, by decide +kernel⟩, List.mem_of_getElem? (i := 221) (by decide +kernel), List.mem_of_getElem? (i := 627) (by decide +kernel), List.mem_of_getElem? (i := 628) (by decide +kernel)⟩
theorem lw_p23 : lw_okq (⟨"MeshLinesModel", "oneCycle", "()V"⟩, 41) := ⟨⟨by decide +kernel, by decide +kernel⟩, List.mem_of_getElem? (i := 673) (by decide +kernel), List.mem_of_getElem? (i := 818) (by decide +kernel), List.mem_of_getElem? (i := 819) (by decide +kernel)⟩
theorem lw_p24 : lw_okq (⟨"MeshLinesModel", "inject", "(II)V"⟩, 41) := ⟨⟨by decide +kernel, by decide +kernel⟩, List.mem_of_getElem? (i := 673) (by decide +kernel), List.mem_of_getElem? (i := 822) (by decide +kernel), List.mem_of_getElem? (i := 823) (by decide +kernel)⟩
theorem lw_p25 : lw_okq (⟨"MeshLinesModel", "append", "(III)V"⟩, 41) := ⟨⟨by decide +kernel, by decide +kernel⟩, List.mem_of_getElem? (i := 673) (by decide +kernel), List.mem_of_getElem? (i := 826) (by decide +kernel), List.mem_of_getElem? (i := 827) (by decide +kernel)⟩
theorem lw_p26 : lw_okq (⟨"MeshLinesModel", "sizeOf", "(I)I"⟩, 41) := ⟨⟨by decide +kernel, by decide +kernel⟩, List.mem_of_getElem? (i := 673) (by decide +kernel), List.mem_of_getElem? (i := 830) (by decide +kernel), List.mem_of_getElem? (i := 831) (by decide +kernel)⟩
theorem lw_p27 : lw_okq (⟨"MeshLinesModel", "moves", "(III)Z"⟩, 41) := ⟨⟨by decide +kernel, by decide +kernel⟩, List.mem_of_getElem? (i := 673) (by decide +kernel), List.mem_of_getElem? (i := 834) (by decide +kernel), List.mem_of_getElem? (i := 835) (by decide +kernel)⟩
theorem lw_p28 : lw_okq (⟨"MeshLinesModel", "served", "(III)I"⟩, 41) := ⟨⟨by decide +kernel, by decide +kernel⟩, List.mem_of_getElem? (i := 673) (by decide +kernel), List.mem_of_getElem? (i := 838) (by decide +kernel), List.mem_of_getElem? (i := 839) (by decide +kernel)⟩
theorem lw_p29 : lw_okq (⟨"MeshLinesModel", "removeFront", "(I)V"⟩, 41) := ⟨⟨by decide +kernel, by decide +kernel⟩, List.mem_of_getElem? (i := 673) (by decide +kernel), List.mem_of_getElem? (i := 848) (by decide +kernel), List.mem_of_getElem? (i := 849) (by decide +kernel)⟩
theorem lw_p30 : lw_okq (⟨"MeshLinesModel", "takeFirst", "(II)V"⟩, 41) := ⟨⟨by decide +kernel, by decide +kernel⟩, List.mem_of_getElem? (i := 673) (by decide +kernel), List.mem_of_getElem? (i := 852) (by decide +kernel), List.mem_of_getElem? (i := 853) (by decide +kernel)⟩
theorem lw_p31 : lw_okq (⟨"MeshLinesModel", "isBehind", "(II)Z"⟩, 41) := ⟨⟨by decide +kernel, by decide +kernel⟩, List.mem_of_getElem? (i := 673) (by decide +kernel), List.mem_of_getElem? (i := 856) (by decide +kernel), List.mem_of_getElem? (i := 857) (by decide +kernel)⟩
def lw_privs_2 : List (MethodName × Nat) := [(⟨"MeshLines$Home", "takePutm", "(II)V"⟩, 7), (⟨"MeshLines$Cache", "takeData", "(LMeshLines$Packet;)Z"⟩, 6), (⟨"MeshLines$Cache", "takeAck", "(I)Z"⟩, 6), (⟨"MeshLines$Cache", "takeInv", "(LMeshLines$Packet;)V"⟩, 6), (⟨"MeshLines$Cache", "become", "(II)V"⟩, 6), (⟨"MeshLines$Cache", "giveData", "(III)V"⟩, 6), (⟨"MeshLines$Core", "fetch", "(IZ)V"⟩, 9), (⟨"MeshLinesModel", "oneCycle", "()V"⟩, 41), (⟨"MeshLinesModel", "inject", "(II)V"⟩, 41), (⟨"MeshLinesModel", "append", "(III)V"⟩, 41), (⟨"MeshLinesModel", "sizeOf", "(I)I"⟩, 41), (⟨"MeshLinesModel", "moves", "(III)Z"⟩, 41), (⟨"MeshLinesModel", "served", "(III)I"⟩, 41), (⟨"MeshLinesModel", "removeFront", "(I)V"⟩, 41), (⟨"MeshLinesModel", "takeFirst", "(II)V"⟩, 41), (⟨"MeshLinesModel", "isBehind", "(II)Z"⟩, 41)]
theorem lw_r2 : ∀ q ∈ lw_privs_2, lw_okq q := List.forall_mem_cons.mpr ⟨lw_p16, List.forall_mem_cons.mpr ⟨lw_p17, List.forall_mem_cons.mpr ⟨lw_p18, List.forall_mem_cons.mpr ⟨lw_p19, List.forall_mem_cons.mpr ⟨lw_p20, List.forall_mem_cons.mpr ⟨lw_p21, List.forall_mem_cons.mpr ⟨lw_p22, List.forall_mem_cons.mpr ⟨lw_p23, List.forall_mem_cons.mpr ⟨lw_p24, List.forall_mem_cons.mpr ⟨lw_p25, List.forall_mem_cons.mpr ⟨lw_p26, List.forall_mem_cons.mpr ⟨lw_p27, List.forall_mem_cons.mpr ⟨lw_p28, List.forall_mem_cons.mpr ⟨lw_p29, List.forall_mem_cons.mpr ⟨lw_p30, List.forall_mem_cons.mpr ⟨lw_p31, fun _ h => absurd h List.not_mem_nil⟩⟩⟩⟩⟩⟩⟩⟩⟩⟩⟩⟩⟩⟩⟩⟩
theorem lw_p32 : lw_okq (⟨"MeshLinesModel", "takes", "(II)Z"⟩, 41) := ⟨⟨by decide +kernel, by decide +kernel⟩, List.mem_of_getElem? (i := 673) (by decide +kernel), List.mem_of_getElem? (i := 860) (by decide +kernel), List.mem_of_getElem? (i := 861) (by decide +kernel)⟩
theorem lw_p33 : lw_okq (⟨"MeshLinesModel", "gets", "(III)Z"⟩, 41) := ⟨⟨by decide +kernel, by decide +kernel⟩, List.mem_of_getElem? (i := 673) (by decide +kernel), List.mem_of_getElem? (i := 864) (by decide +kernel), List.mem_of_getElem? (i := 865) (by decide +kernel)⟩
theorem lw_p34 : lw_okq (⟨"MeshLinesModel", "send", "(IIIIIII)V"⟩, 41) := ⟨⟨by decide +kernel, by decide +kernel⟩, List.mem_of_getElem? (i := 673) (by decide +kernel), List.mem_of_getElem? (i := 868) (by decide +kernel), List.mem_of_getElem? (i := 869) (by decide +kernel)⟩
theorem lw_p35 : lw_okq (⟨"MeshLinesModel", "getm", "(III)Z"⟩, 41) := ⟨⟨by decide +kernel, by decide +kernel⟩, List.mem_of_getElem? (i := 673) (by decide +kernel), List.mem_of_getElem? (i := 875) (by decide +kernel), List.mem_of_getElem? (i := 876) (by decide +kernel)⟩
theorem lw_p36 : lw_okq (⟨"MeshLinesModel", "gone", "(II)V"⟩, 41) := ⟨⟨by decide +kernel, by decide +kernel⟩, List.mem_of_getElem? (i := 673) (by decide +kernel), List.mem_of_getElem? (i := 879) (by decide +kernel), List.mem_of_getElem? (i := 880) (by decide +kernel)⟩
theorem lw_p37 : lw_okq (⟨"MeshLinesModel", "putm", "(III)V"⟩, 41) := ⟨⟨by decide +kernel, by decide +kernel⟩, List.mem_of_getElem? (i := 673) (by decide +kernel), List.mem_of_getElem? (i := 883) (by decide +kernel), List.mem_of_getElem? (i := 884) (by decide +kernel)⟩
theorem lw_p38 : lw_okq (⟨"MeshLinesModel", "forward", "(IIZ)Z"⟩, 41) := ⟨⟨by decide +kernel, by decide +kernel⟩, List.mem_of_getElem? (i := 673) (by decide +kernel), List.mem_of_getElem? (i := 887) (by decide +kernel), List.mem_of_getElem? (i := 888) (by decide +kernel)⟩
theorem lw_p39 : lw_okq (⟨"MeshLinesModel", "invalidate", "(II)Z"⟩, 41) := ⟨⟨by decide +kernel, by decide +kernel⟩, List.mem_of_getElem? (i := 673) (by decide +kernel), List.mem_of_getElem? (i := 894) (by decide +kernel), List.mem_of_getElem? (i := 895) (by decide +kernel)⟩
theorem lw_p40 : lw_okq (⟨"MeshLinesModel", "data", "(II)V"⟩, 41) := ⟨⟨by decide +kernel, by decide +kernel⟩, List.mem_of_getElem? (i := 673) (by decide +kernel), List.mem_of_getElem? (i := 898) (by decide +kernel), List.mem_of_getElem? (i := 899) (by decide +kernel)⟩
theorem lw_p41 : lw_okq (⟨"MeshLinesModel", "become", "(III)V"⟩, 41) := ⟨⟨by decide +kernel, by decide +kernel⟩, List.mem_of_getElem? (i := 673) (by decide +kernel), List.mem_of_getElem? (i := 902) (by decide +kernel), List.mem_of_getElem? (i := 903) (by decide +kernel)⟩
theorem lw_p42 : lw_okq (⟨"MeshLinesModel", "finish", "(II)V"⟩, 41) := ⟨⟨by decide +kernel, by decide +kernel⟩, List.mem_of_getElem? (i := 673) (by decide +kernel), List.mem_of_getElem? (i := 906) (by decide +kernel), List.mem_of_getElem? (i := 907) (by decide +kernel)⟩
theorem lw_p43 : lw_okq (⟨"MeshLinesModel", "acknowledged", "(II)V"⟩, 41) := ⟨⟨by decide +kernel, by decide +kernel⟩, List.mem_of_getElem? (i := 673) (by decide +kernel), List.mem_of_getElem? (i := 910) (by decide +kernel), List.mem_of_getElem? (i := 911) (by decide +kernel)⟩
theorem lw_p44 : lw_okq (⟨"MeshLinesModel", "core", "(I)V"⟩, 41) := ⟨⟨by decide +kernel, by decide +kernel⟩, List.mem_of_getElem? (i := 673) (by decide +kernel), List.mem_of_getElem? (i := 914) (by decide +kernel), List.mem_of_getElem? (i := 915) (by decide +kernel)⟩
theorem lw_p45 : lw_okq (⟨"MeshLinesModel", "evict", "(II)V"⟩, 41) := ⟨⟨by decide +kernel, by decide +kernel⟩, List.mem_of_getElem? (i := 673) (by decide +kernel), List.mem_of_getElem? (i := 918) (by decide +kernel), List.mem_of_getElem? (i := 919) (by decide +kernel)⟩
def lw_privs_3 : List (MethodName × Nat) := [(⟨"MeshLinesModel", "takes", "(II)Z"⟩, 41), (⟨"MeshLinesModel", "gets", "(III)Z"⟩, 41), (⟨"MeshLinesModel", "send", "(IIIIIII)V"⟩, 41), (⟨"MeshLinesModel", "getm", "(III)Z"⟩, 41), (⟨"MeshLinesModel", "gone", "(II)V"⟩, 41), (⟨"MeshLinesModel", "putm", "(III)V"⟩, 41), (⟨"MeshLinesModel", "forward", "(IIZ)Z"⟩, 41), (⟨"MeshLinesModel", "invalidate", "(II)Z"⟩, 41), (⟨"MeshLinesModel", "data", "(II)V"⟩, 41), (⟨"MeshLinesModel", "become", "(III)V"⟩, 41), (⟨"MeshLinesModel", "finish", "(II)V"⟩, 41), (⟨"MeshLinesModel", "acknowledged", "(II)V"⟩, 41), (⟨"MeshLinesModel", "core", "(I)V"⟩, 41), (⟨"MeshLinesModel", "evict", "(II)V"⟩, 41)]
theorem lw_r3 : ∀ q ∈ lw_privs_3, lw_okq q := List.forall_mem_cons.mpr ⟨lw_p32, List.forall_mem_cons.mpr ⟨lw_p33, List.forall_mem_cons.mpr ⟨lw_p34, List.forall_mem_cons.mpr ⟨lw_p35, List.forall_mem_cons.mpr ⟨lw_p36, List.forall_mem_cons.mpr ⟨lw_p37, List.forall_mem_cons.mpr ⟨lw_p38, List.forall_mem_cons.mpr ⟨lw_p39, List.forall_mem_cons.mpr ⟨lw_p40, List.forall_mem_cons.mpr ⟨lw_p41, List.forall_mem_cons.mpr ⟨lw_p42, List.forall_mem_cons.mpr ⟨lw_p43, List.forall_mem_cons.mpr ⟨lw_p44, List.forall_mem_cons.mpr ⟨lw_p45, fun _ h => absurd h List.not_mem_nil⟩⟩⟩⟩⟩⟩⟩⟩⟩⟩⟩⟩⟩⟩
def lw_privs : List (MethodName × Nat) := lw_privs_1 ++ (lw_privs_2 ++ (lw_privs_3))
def lw_tbl : List Cond := k2_sels lw_privs ++ tables_1
theorem lw_privs_ok : ∀ q ∈ lw_privs, lw_okq q := by
  show ∀ q ∈ lw_privs_1 ++ (lw_privs_2 ++ (lw_privs_3)), lw_okq q
  exact List.forall_mem_append.mpr ⟨lw_r1, List.forall_mem_append.mpr ⟨lw_r2, lw_r3⟩⟩
end
section
def C_0 : String := "MeshLines"
def F_0 : u_T := fun k => match k with
  | 0 => ("MeshLines", "mesh", "LMeshLines$Mesh;", true)
  | 1 => ("MeshLines", "homes", "[LMeshLines$Home;", true)
  | 2 => ("MeshLines", "nodes", "[LMeshLines$Node;", true)
  | _ => ("MeshLines", "cycle", "I", false)
def C_1 : String := "MeshLines$Mesh"
def F_1 : u_T := fun k => match k with
  | 0 => ("MeshLines$Mesh", "lanes", "[LMeshLines$Lane;", true)
  | 1 => ("MeshLines$Mesh", "flits", "I", true)
  | 2 => ("MeshLines$Mesh", "sent", "I", false)
  | 3 => ("MeshLines$Mesh", "arrived", "I", false)
  | _ => ("MeshLines$Mesh", "overLinks", "I", false)
def C_2 : String := "MeshLines$Lane"
def F_2 : u_T := fun k => match k with
  | 0 => ("MeshLines$Lane", "node", "I", true)
  | 1 => ("MeshLines$Lane", "row", "Ljava/util/ArrayList;", true)
  | 2 => ("MeshLines$Lane", "inbox", "Ljava/util/ArrayList;", true)
  | 3 => ("MeshLines$Lane", "buffers", "[LMeshLines$FlitBuffer;", true)
  | 4 => ("MeshLines$Lane", "holders", "[I", true)
  | 5 => ("MeshLines$Lane", "last", "[I", true)
  | _ => ("MeshLines$Lane", "entered", "I", false)
def C_3 : String := "java/util/ArrayList"
def F_3 : u_T := fun k => match k with
  | 0 => ("java/util/ArrayList", "elementData", "[Ljava/lang/Object;", false)
  | 1 => ("java/util/ArrayList", "size", "I", false)
  | _ => ("java/util/AbstractList", "modCount", "I", false)
def C_4 : String := "MeshLines$FlitBuffer"
def F_4 : u_T := fun k => match k with
  | 0 => ("MeshLines$FlitBuffer", "flits", "[LMeshLines$Flit;", true)
  | _ => ("MeshLines$FlitBuffer", "size", "I", false)
def C_5 : String := "MeshLines$Home"
def F_5 : u_T := fun k => match k with
  | 0 => ("MeshLines$Home", "line", "I", true)
  | 1 => ("MeshLines$Home", "node", "I", true)
  | 2 => ("MeshLines$Home", "mesh", "LMeshLines$Mesh;", true)
  | 3 => ("MeshLines$Home", "state", "I", false)
  | 4 => ("MeshLines$Home", "owner", "I", false)
  | 5 => ("MeshLines$Home", "sharers", "I", false)
  | _ => ("MeshLines$Home", "value", "I", false)
def C_6 : String := "MeshLines$Node"
def F_6 : u_T := fun k => match k with
  | 0 => ("MeshLines$Node", "number", "I", true)
  | 1 => ("MeshLines$Node", "mesh", "LMeshLines$Mesh;", true)
  | 2 => ("MeshLines$Node", "homes", "[LMeshLines$Home;", true)
  | 3 => ("MeshLines$Node", "cache", "LMeshLines$Cache;", true)
  | _ => ("MeshLines$Node", "core", "LMeshLines$Core;", true)
def C_7 : String := "MeshLines$Cache"
def F_7 : u_T := fun k => match k with
  | 0 => ("MeshLines$Cache", "node", "I", true)
  | 1 => ("MeshLines$Cache", "mesh", "LMeshLines$Mesh;", true)
  | 2 => ("MeshLines$Cache", "states", "[I", true)
  | 3 => ("MeshLines$Cache", "values", "[I", true)
  | 4 => ("MeshLines$Cache", "needs", "[I", true)
  | _ => ("MeshLines$Cache", "used", "[I", true)
def C_8 : String := "MeshLines$Core"
def F_8 : u_T := fun k => match k with
  | 0 => ("MeshLines$Core", "cache", "LMeshLines$Cache;", true)
  | 1 => ("MeshLines$Core", "kinds", "[I", true)
  | 2 => ("MeshLines$Core", "lines", "[I", true)
  | 3 => ("MeshLines$Core", "values", "[I", true)
  | 4 => ("MeshLines$Core", "delays", "[I", true)
  | 5 => ("MeshLines$Core", "results", "[I", true)
  | 6 => ("MeshLines$Core", "total", "I", false)
  | 7 => ("MeshLines$Core", "finished", "I", false)
  | _ => ("MeshLines$Core", "finishedIn", "I", false)
def C_9 : String := "MeshLines$Flit"
def F_9 : u_T := fun k => match k with
  | 0 => ("MeshLines$Flit", "packet", "LMeshLines$Packet;", true)
  | 1 => ("MeshLines$Flit", "isHead", "Z", true)
  | 2 => ("MeshLines$Flit", "isLast", "Z", true)
  | _ => ("MeshLines$Flit", "cameIn", "I", false)
def C_10 : String := "MeshLines$Packet"
def F_10 : u_T := fun k => match k with
  | 0 => ("MeshLines$Packet", "kind", "I", true)
  | 1 => ("MeshLines$Packet", "line", "I", true)
  | 2 => ("MeshLines$Packet", "destination", "I", true)
  | 3 => ("MeshLines$Packet", "asker", "I", true)
  | 4 => ("MeshLines$Packet", "value", "I", true)
  | 5 => ("MeshLines$Packet", "acks", "I", true)
  | _ => ("MeshLines$Packet", "length", "I", true)
def C_11 : String := "MeshLinesModel"
def F_11 : u_T := fun k => match k with
  | 0 => ("MeshLinesModel", "depth", "I", true)
  | 1 => ("MeshLinesModel", "flits", "I", true)
  | 2 => ("MeshLinesModel", "cycle", "I", false)
  | 3 => ("MeshLinesModel", "live", "[Z", false)
  | 4 => ("MeshLinesModel", "kind", "[I", false)
  | 5 => ("MeshLinesModel", "line", "[I", false)
  | 6 => ("MeshLinesModel", "to", "[I", false)
  | 7 => ("MeshLinesModel", "sender", "[I", false)
  | 8 => ("MeshLinesModel", "asker", "[I", false)
  | 9 => ("MeshLinesModel", "value", "[I", false)
  | 10 => ("MeshLinesModel", "acks", "[I", false)
  | 11 => ("MeshLinesModel", "row", "[I", false)
  | 12 => ("MeshLinesModel", "rowCount", "[I", false)
  | 13 => ("MeshLinesModel", "given", "[I", false)
  | 14 => ("MeshLinesModel", "inbox", "[I", false)
  | 15 => ("MeshLinesModel", "inCount", "[I", false)
  | 16 => ("MeshLinesModel", "flitOf", "[I", false)
  | 17 => ("MeshLinesModel", "flitNumber", "[I", false)
  | 18 => ("MeshLinesModel", "cameIn", "[I", false)
  | 19 => ("MeshLinesModel", "bufferCount", "[I", false)
  | 20 => ("MeshLinesModel", "holder", "[I", false)
  | 21 => ("MeshLinesModel", "lastPort", "[I", false)
  | 22 => ("MeshLinesModel", "state", "[I", false)
  | 23 => ("MeshLinesModel", "copy", "[I", false)
  | 24 => ("MeshLinesModel", "needs", "[I", false)
  | 25 => ("MeshLinesModel", "usedAt", "[I", false)
  | 26 => ("MeshLinesModel", "homeState", "[I", false)
  | 27 => ("MeshLinesModel", "memory", "[I", false)
  | 28 => ("MeshLinesModel", "owner", "[I", false)
  | 29 => ("MeshLinesModel", "sharers", "[I", false)
  | 30 => ("MeshLinesModel", "opKind", "[I", false)
  | 31 => ("MeshLinesModel", "opLine", "[I", false)
  | 32 => ("MeshLinesModel", "opValue", "[I", false)
  | 33 => ("MeshLinesModel", "opDelay", "[I", false)
  | 34 => ("MeshLinesModel", "results", "[I", false)
  | 35 => ("MeshLinesModel", "operations", "[I", false)
  | 36 => ("MeshLinesModel", "doneCount", "[I", false)
  | 37 => ("MeshLinesModel", "rests", "[Z", false)
  | 38 => ("MeshLinesModel", "sent", "I", false)
  | 39 => ("MeshLinesModel", "arrived", "I", false)
  | _ => ("MeshLinesModel", "crossed", "I", false)
def evC : List vw_C := [(C_0, F_0, 4), (C_1, F_1, 5), (C_2, F_2, 7), (C_3, F_3, 3), (C_4, F_4, 2), (C_5, F_5, 7), (C_6, F_6, 5), (C_7, F_7, 6), (C_8, F_8, 9), (C_9, F_9, 4), (C_10, F_10, 7), (C_11, F_11, 41)]
def evN (c : Nat) : Nat := ((evC[c]?).map (fun q => q.2.2)).getD 0
-- 0 an int, 1 a boolean, 2 a reference
def evFl : List (List Nat) := [[2, 2, 2, 0], [2, 0, 0, 0, 0], [0, 2, 2, 2, 2, 2, 0], [2, 0, 0], [2, 0], [0, 0, 2, 0, 0, 0, 0], [0, 2, 2, 2, 2], [0, 2, 2, 2, 2, 2], [2, 2, 2, 2, 2, 2, 0, 0, 0], [2, 1, 1, 0], [0, 0, 0, 0, 0, 0, 0], [0, 0, 0, 2, 2, 2, 2, 2, 2, 2, 2, 2, 2, 2, 2, 2, 2, 2, 2, 2, 2, 2, 2, 2, 2, 2, 2, 2, 2, 2, 2, 2, 2, 2, 2, 2, 2, 2, 0, 0, 0]]
def evF (c k : Nat) : Nat := (evFl.getD c []).getD k 0
def evB (c k : Nat) : Bool := evF c k == 2
def evTy (t : Nat) : FieldType := match t with
  | 50 => .int
  | 51 => .boolean
  | 52 => .object "java/lang/Object"
  | 53 => .object "MeshLines$Home"
  | 54 => .object "MeshLines$Node"
  | 55 => .object "MeshLines$Lane"
  | 56 => .object "MeshLines$FlitBuffer"
  | _ => .object "MeshLines$Flit"
def evW : List Cond := lw_tbl.filter (fun w => k2_isCode w || goodWord w)
theorem evW_good (w : Cond) (hw : w ∈ evW) : (w.onTables && w.keeps) = true ∨ ∃ ty, w = .arrayClass ty := by
  have h := (List.mem_filter.mp hw).2
  rcases Bool.or_eq_true_iff.mp h with hc | hg
  · cases w <;> first | (simp [k2_isCode] at hc; done) | exact Or.inl rfl
  · exact good_of_word hg
def ev_X (U : State) : Prop := va_Nw (.methodLinkNest "MeshLines$Home" 21 ⟨"MeshLines", "homeOf", "(I)I"⟩ "MeshLines") U ∧ va_Nw (.methodLinkNest "MeshLines$Cache" 63 ⟨"MeshLines", "homeOf", "(I)I"⟩ "MeshLines") U ∧ va_Nw (.castable "MeshLines$Packet" "java/lang/Object") U ∧ va_AO "java/lang/Object" U ∧ va_AO "MeshLines$Home" U ∧ va_AO "MeshLines$Node" U ∧ va_AO "MeshLines$Lane" U ∧ va_AO "MeshLines$FlitBuffer" U ∧ va_AO "MeshLines$Flit" U
theorem ev_Xmoved {u U : State} (hW : u.WarmedH U.vm) (h : ev_X u) : ev_X U := by
  obtain ⟨k0, k1, k2, k3, k4, k5, k6, k7, k8⟩ := h
  exact ⟨va_Nw.warmM hW k0, va_Nw.warmM hW k1, va_Nw.warmC hW k2, va_AO.moved hW.alike k3, va_AO.moved hW.alike k4, va_AO.moved hW.alike k5, va_AO.moved hW.alike k6, va_AO.moved hW.alike k7, va_AO.moved hW.alike k8⟩
theorem xn_Ho_21 (U : State) (h : ev_X U) : va_Nw (.methodLinkNest "MeshLines$Home" 21 ⟨"MeshLines", "homeOf", "(I)I"⟩ "MeshLines") U := h.1
theorem xn_Ca_63 (U : State) (h : ev_X U) : va_Nw (.methodLinkNest "MeshLines$Cache" 63 ⟨"MeshLines", "homeOf", "(I)I"⟩ "MeshLines") U := h.2.1
theorem xc_52 (U : State) (h : ev_X U) : va_Nw (.castable "MeshLines$Packet" "java/lang/Object") U := h.2.2.1
theorem xo_52 (U : State) (h : ev_X U) : va_AO "java/lang/Object" U := h.2.2.2.1
theorem xo_53 (U : State) (h : ev_X U) : va_AO "MeshLines$Home" U := h.2.2.2.2.1
theorem xo_54 (U : State) (h : ev_X U) : va_AO "MeshLines$Node" U := h.2.2.2.2.2.1
theorem xo_55 (U : State) (h : ev_X U) : va_AO "MeshLines$Lane" U := h.2.2.2.2.2.2.1
theorem xo_56 (U : State) (h : ev_X U) : va_AO "MeshLines$FlitBuffer" U := h.2.2.2.2.2.2.2.1
theorem xo_57 (U : State) (h : ev_X U) : va_AO "MeshLines$Flit" U := h.2.2.2.2.2.2.2.2
end
section
/-! The abstract machine, its heap: a number for each kind of cell, fields and elements as functions of the address.
   Ints are integers z that stand for Int32.ofInt z; a reference is an Option Nat. -/
abbrev eI (z : Int) : Value := Value.int (Int32.ofInt z)
def eOk (z : Int) : Bool := decide (-2147483648 ≤ z) && decide (z < 2147483648)
theorem eOk_iff {z : Int} : eOk z = true ↔ -2147483648 ≤ z ∧ z < 2147483648 := by simp [eOk]
theorem eI_toInt {z : Int} (h : eOk z = true) : (Int32.ofInt z).toInt = z := by
  rw [eOk_iff] at h
  rw [Int32.toInt_ofInt]
  exact Int.bmod_eq_of_le (by simp [Int32.size]; omega) (by simp [Int32.size]; omega)
theorem eI_inj {a b : Int} (ha : eOk a = true) (hb : eOk b = true) (h : Int32.ofInt a = Int32.ofInt b) : a = b := by
  have := congrArg Int32.toInt h
  rwa [eI_toInt ha, eI_toInt hb] at this
theorem eI_lt {a b : Int} (ha : eOk a = true) (hb : eOk b = true) : Int32.ofInt a < Int32.ofInt b ↔ a < b := by
  rw [Int32.lt_iff_toInt_lt, eI_toInt ha, eI_toInt hb]
theorem eI_le {a b : Int} (ha : eOk a = true) (hb : eOk b = true) : Int32.ofInt a ≤ Int32.ofInt b ↔ a ≤ b := by
  rw [Int32.le_iff_toInt_le, eI_toInt ha, eI_toInt hb]
theorem eI_add (a b : Int) : Int32.ofInt a + Int32.ofInt b = Int32.ofInt (a + b) := by rw [Int32.ofInt_add]
theorem eI_sub (a b : Int) : Int32.ofInt a - Int32.ofInt b = Int32.ofInt (a - b) := by rw [Int32.ofInt_sub]
theorem eI_mul (a b : Int) : Int32.ofInt a * Int32.ofInt b = Int32.ofInt (a * b) := by rw [Int32.ofInt_mul]
theorem eI_neg (a : Int) : - Int32.ofInt a = Int32.ofInt (-a) := by rw [Int32.ofInt_neg]
theorem eI_nat (n : Nat) : Int32.ofInt (n : Int) = nI n := by
  show Int32.ofInt (n : Int) = Int32.ofNat n
  first | rfl | exact Int32.ofInt_eq_ofNat | (apply Int32.toBitVec_inj.mp; simp)
theorem eI_div {a b : Int} (h0 : 0 ≤ a) (ha : a < 2147483648) (h1 : 0 < b) (hb : b < 2147483648) : Int32.ofInt a / Int32.ofInt b = Int32.ofInt (a / b) := by
  obtain ⟨n, rfl⟩ := Int.eq_ofNat_of_zero_le h0
  obtain ⟨k, rfl⟩ := Int.eq_ofNat_of_zero_le (Int.le_of_lt h1)
  rw [eI_nat, eI_nat, pk_div (by omega) (by omega) (by omega), ← eI_nat]
  simp
theorem eI_rem {a b : Int} (h0 : 0 ≤ a) (ha : a < 2147483648) (h1 : 0 < b) (hb : b < 2147483648) : Int32.ofInt a - Int32.ofInt a / Int32.ofInt b * Int32.ofInt b = Int32.ofInt (a % b) := by
  obtain ⟨n, rfl⟩ := Int.eq_ofNat_of_zero_le h0
  obtain ⟨k, rfl⟩ := Int.eq_ofNat_of_zero_le (Int.le_of_lt h1)
  rw [eI_nat, eI_nat, pk_rem (by omega) (by omega) (by omega), ← eI_nat]
  simp
theorem eI_cl {z : Int} (h0 : 0 ≤ z) (h : z < 2147483648) : (Int32.ofInt z).toNatClampNeg = z.toNat := by
  obtain ⟨n, rfl⟩ := Int.eq_ofNat_of_zero_le h0
  rw [eI_nat, nI_clamp (by omega)]
  simp
theorem eI_nneg {z : Int} (h0 : 0 ≤ z) (h : z < 2147483648) : ¬ Int32.ofInt z < 0 := by
  obtain ⟨n, rfl⟩ := Int.eq_ofNat_of_zero_le h0
  rw [eI_nat]
  exact nI_pos (by omega)
theorem eI_in {z : Int} {n : Nat} (h0 : 0 ≤ z) (h : z < n) (hn : n < 2147483648) : vp_in (Int32.ofInt z) n := by
  obtain ⟨k, rfl⟩ := Int.eq_ofNat_of_zero_le h0
  rw [eI_nat]
  exact vp_in_nI (by omega) (by omega)
def eAnd (a b : Int) : Int := (Int32.ofInt a &&& Int32.ofInt b).toInt
def eOr (a b : Int) : Int := (Int32.ofInt a ||| Int32.ofInt b).toInt
def eXor (a b : Int) : Int := (Int32.ofInt a ^^^ Int32.ofInt b).toInt
def eShl (a b : Int) : Int := (Int32.ofInt a <<< (Int32.ofInt b &&& 31)).toInt
def eShr (a b : Int) : Int := (Int32.ofInt a >>> (Int32.ofInt b &&& 31)).toInt
def eUshr (a b : Int) : Int := ((Int32.ofInt a).toUInt32 >>> ((Int32.ofInt b).toUInt32 &&& Int32.toUInt32 31)).toInt32.toInt
theorem eI_toI (x : Int32) : Int32.ofInt x.toInt = x := by simp
-- the heap: kinds, int fields, reference fields, lengths, ints of arrays, references of arrays, size, cells made, slots made, the empty row, the mirror
abbrev ev_hs : Type := (Nat → Nat) × (Nat → Nat → Int) × (Nat → Nat → Option Nat) × (Nat → Nat) × (Nat → Nat → Int) × (Nat → Nat → Option Nat) × Nat × Nat × Nat × Nat × Nat
def xK (h : ev_hs) : Nat → Nat := h.1
def xI (h : ev_hs) : Nat → Nat → Int := h.2.1
def xR (h : ev_hs) : Nat → Nat → Option Nat := h.2.2.1
def xL (h : ev_hs) : Nat → Nat := h.2.2.2.1
def xA (h : ev_hs) : Nat → Nat → Int := h.2.2.2.2.1
def xQ (h : ev_hs) : Nat → Nat → Option Nat := h.2.2.2.2.2.1
def xZ (h : ev_hs) : Nat := h.2.2.2.2.2.2.1
def xC (h : ev_hs) : Nat := h.2.2.2.2.2.2.2.1
def xS (h : ev_hs) : Nat := h.2.2.2.2.2.2.2.2.1
def xE (h : ev_hs) : Nat := h.2.2.2.2.2.2.2.2.2.1
def xM (h : ev_hs) : Nat := h.2.2.2.2.2.2.2.2.2.2
def up2 {α : Type} (f : Nat → Nat → α) (i j : Nat) (v : α) : Nat → Nat → α := fun a b => if a = i ∧ b = j then v else f a b
-- writes
def wI (h : ev_hs) (f a : Nat) (z : Int) : ev_hs := (xK h, up2 (xI h) f a z, xR h, xL h, xA h, xQ h, xZ h, xC h, xS h, xE h, xM h)
def wR (h : ev_hs) (f a : Nat) (o : Option Nat) : ev_hs := (xK h, xI h, up2 (xR h) f a o, xL h, xA h, xQ h, xZ h, xC h, xS h, xE h, xM h)
def wA (h : ev_hs) (a j : Nat) (z : Int) : ev_hs := (xK h, xI h, xR h, xL h, up2 (xA h) a j z, xQ h, xZ h, xC h, xS h, xE h, xM h)
def wQ (h : ev_hs) (a j : Nat) (o : Option Nat) : ev_hs := (xK h, xI h, xR h, xL h, xA h, up2 (xQ h) a j o, xZ h, xC h, xS h, xE h, xM h)
def wC (h : ev_hs) (a s d p n : Nat) : ev_hs := (xK h, xI h, xR h, xL h, xA h, (fun b j => if b = d ∧ p ≤ j ∧ j < p + n then xQ h a (s + (j - p)) else xQ h b j), xZ h, xC h, xS h, xE h, xM h)
def wN (h : ev_hs) (c n : Nat) : ev_hs := (va_up (xK h) (xZ h) (c + 1), (fun f a => if a = xZ h then 0 else xI h f a), (fun f a => if a = xZ h then none else xR h f a), va_up (xL h) (xZ h) 0, xA h, xQ h, xZ h + 1, xC h + 1, xS h + n, xE h, xM h)
def wY (h : ev_hs) (t n : Nat) : ev_hs := (va_up (xK h) (xZ h) t, xI h, xR h, va_up (xL h) (xZ h) n, va_up (xA h) (xZ h) (fun _ => 0), va_up (xQ h) (xZ h) (fun _ => none), xZ h + 1, xC h + 1, xS h + n, xE h, xM h)
section Ops
variable {α : Type}
-- reading and writing, with what comes behind: none where the abstract machine doesn't go
def gI (h : ev_hs) (c k : Nat) (o : Option Nat) (K : Int → Option α) : Option α := match o with
  | none => none
  | some a => if xK h a = c + 1 then K (xI h (100 * c + k) a) else none
def gR (h : ev_hs) (c k : Nat) (o : Option Nat) (K : Option Nat → Option α) : Option α := match o with
  | none => none
  | some a => if xK h a = c + 1 then K (xR h (100 * c + k) a) else none
def pI (h : ev_hs) (c k : Nat) (o : Option Nat) (z : Int) (K : ev_hs → Option α) : Option α := match o with
  | none => none
  | some a => if xK h a = c + 1 then K (wI h (100 * c + k) a z) else none
def pZ (h : ev_hs) (c k : Nat) (o : Option Nat) (z : Int) (K : ev_hs → Option α) : Option α := match o with
  | none => none
  | some a => if xK h a = c + 1 ∧ (z = 0 ∨ z = 1) then K (wI h (100 * c + k) a z) else none
def pR (h : ev_hs) (c k : Nat) (o : Option Nat) (v : Option Nat) (K : ev_hs → Option α) : Option α := match o with
  | none => none
  | some a => if xK h a = c + 1 then K (wR h (100 * c + k) a v) else none
def lI (h : ev_hs) (t : Nat) (o : Option Nat) (i : Int) (K : Int → Option α) : Option α := match o with
  | none => none
  | some a => if xK h a = t ∧ 0 ≤ i ∧ i < (xL h a : Int) then K (xA h a i.toNat) else none
def lQ (h : ev_hs) (t : Nat) (o : Option Nat) (i : Int) (K : Option Nat → Option α) : Option α := match o with
  | none => none
  | some a => if xK h a = t ∧ 0 ≤ i ∧ i < (xL h a : Int) then K (xQ h a i.toNat) else none
def sI (h : ev_hs) (t : Nat) (o : Option Nat) (i : Int) (z : Int) (K : ev_hs → Option α) : Option α := match o with
  | none => none
  | some a => if xK h a = t ∧ 0 ≤ i ∧ i < (xL h a : Int) then K (wA h a i.toNat z) else none
def sZ (h : ev_hs) (t : Nat) (o : Option Nat) (i : Int) (z : Int) (K : ev_hs → Option α) : Option α := match o with
  | none => none
  | some a => if xK h a = t ∧ 0 ≤ i ∧ i < (xL h a : Int) ∧ (z = 0 ∨ z = 1) then K (wA h a i.toNat z) else none
def okQ (h : ev_hs) (e : Nat) (v : Option Nat) : Bool := match v with
  | none => true
  | some w => xK h w == e + 1
-- of an array of kind t, whose elements may be objects of class e
def sQ (h : ev_hs) (t e : Nat) (o : Option Nat) (i : Int) (v : Option Nat) (K : ev_hs → Option α) : Option α := match o with
  | none => none
  | some a => if xK h a = t ∧ 0 ≤ i ∧ i < (xL h a : Int) ∧ okQ h e v = true then K (wQ h a i.toNat v) else none
def aL (h : ev_hs) (t : Nat) (o : Option Nat) (K : Int → Option α) : Option α := match o with
  | none => none
  | some a => if xK h a = t then K (xL h a : Int) else none
def nO (h : ev_hs) (c n : Nat) (K : Option Nat → ev_hs → Option α) : Option α := K (some (xZ h)) (wN h c n)
def nA (h : ev_hs) (t : Nat) (n : Int) (K : Option Nat → ev_hs → Option α) : Option α := if 0 ≤ n ∧ n ≤ 100000000 then K (some (xZ h)) (wY h t n.toNat) else none
def bI (o : Option (Int × ev_hs)) (K : Int → ev_hs → Option α) : Option α := match o with
  | none => none
  | some y => K y.1 y.2
def bR (o : Option (Option Nat × ev_hs)) (K : Option Nat → ev_hs → Option α) : Option α := match o with
  | none => none
  | some y => K y.1 y.2
def bV (o : Option ev_hs) (K : ev_hs → Option α) : Option α := match o with
  | none => none
  | some y => K y
-- the receiver is an object of class c; it isn't null
def vK (h : ev_hs) (c : Nat) (o : Option Nat) (A : Option α) : Option α := match o with
  | none => none
  | some a => if xK h a = c + 1 then A else none
def nN (o : Option Nat) (A : Option α) : Option α := match o with
  | none => none
  | some _ => A
def eLt (a b : Int) (A B : Option α) : Option α := if eOk a = true ∧ eOk b = true then (if a < b then A else B) else none
def eEq (a b : Int) (A B : Option α) : Option α := if a = b then A else if eOk a = true ∧ eOk b = true then B else none
def eNu (o : Option Nat) (A B : Option α) : Option α := match o with
  | none => A
  | some _ => B
def eAe (o v : Option Nat) (A B : Option α) : Option α := if o = v then A else B
def eDiv (a b : Int) (K : Int → Option α) : Option α := if 0 ≤ a ∧ a < 2147483648 ∧ 0 < b ∧ b < 2147483648 then K (a / b) else none
def eRem (a b : Int) (K : Int → Option α) : Option α := if 0 ≤ a ∧ a < 2147483648 ∧ 0 < b ∧ b < 2147483648 then K (a % b) else none
-- checkcast to class c, to the kind t of arrays
def eCc (h : ev_hs) (c : Nat) (o : Option Nat) (K : Option α) : Option α := match o with
  | none => K
  | some a => if xK h a = c + 1 then K else none
def eCa (h : ev_hs) (t : Nat) (o : Option Nat) (K : Option α) : Option α := match o with
  | none => K
  | some a => if xK h a = t then K else none
-- getClass of a row of objects
def eGc (h : ev_hs) (t : Nat) (o : Option Nat) (K : Option Nat → Option α) : Option α := match o with
  | none => none
  | some a => if xK h a = t then K (some (xM h)) else none
def okR (h : ev_hs) (e a s n : Nat) : Bool := (List.range n).all (fun i => okQ h e (xQ h a (s + i)))
-- System.arraycopy between rows of objects (kind t, objects of class e)
def cQ (h : ev_hs) (t e : Nat) (o : Option Nat) (sp : Int) (v : Option Nat) (dp n : Int) (K : ev_hs → Option α) : Option α := match o, v with
  | some a, some d => if xK h a = t ∧ xK h d = t ∧ 0 ≤ sp ∧ 0 ≤ dp ∧ 0 ≤ n ∧ sp + n ≤ (xL h a : Int) ∧ dp + n ≤ (xL h d : Int) ∧ okR h e a sp.toNat n.toNat = true ∧ 0 < n then K (wC h a sp.toNat d dp.toNat n.toNat) else none
  | _, _ => none
end Ops
/-! The judgement: from pc, locals lo, stack st, heap h the method M comes to its end with x -/
abbrev ev_E : Type := Launch × va_G × (Nat → ClassId) × Nat × Cell × Heap × Nat × Nat
abbrev eLa (E : ev_E) : Launch := E.1
abbrev eD (E : ev_E) : va_G := E.2.1
abbrev eA (E : ev_E) : Nat → ClassId := E.2.2.1
abbrev e0 (E : ev_E) : Nat := E.2.2.2.1
abbrev eSc (E : ev_E) : Cell := E.2.2.2.2.1
abbrev eHb (E : ev_E) : Heap := E.2.2.2.2.2.1
abbrev eEm (E : ev_E) : Nat := E.2.2.2.2.2.2.1
abbrev eMi (E : ev_E) : Nat := E.2.2.2.2.2.2.2
abbrev ev_M : Type := MethodName × ByteArray × Nat × Option FieldType
abbrev mY (M : ev_M) : MethodName := M.1
abbrev mB (M : ev_M) : ByteArray := M.2.1
abbrev mL (M : ev_M) : Nat := M.2.2.1
abbrev mR (M : ev_M) : Option FieldType := M.2.2.2
def ev_fv (h : ev_hs) (c a k : Nat) : Value := if evB c k = true then va_rf (xR h (100 * c + k) a) else eI (xI h (100 * c + k) a)
def ev_fs (h : ev_hs) (c a : Nat) : List Value := (List.range (evN c)).map (ev_fv h c a)
def ev_at (E : ev_E) (h : ev_hs) (H : Heap) (a : Nat) : Prop :=
  (∀ c, xK h a = c + 1 → c < 49 → va_at (eD E) evC (a, .inr (c, ev_fs h c a)) H) ∧
  (50 ≤ xK h a → xK h a ≤ 51 → H[a]? = some (vp_cell (eA E (xK h a)) (xL h a, .inl (fun j => Int32.ofInt (xA h a j))))) ∧
  (52 ≤ xK h a → xK h a ≤ 57 → H[a]? = some (vp_cell (eA E (xK h a)) (xL h a, .inr (.inr (.inr (.inr (xQ h a))))))) ∧
  (xK h a = 58 → H[a]? = some (eSc E) ∧ (eSc E).slots.size = xL h a ∧ ∀ j, j < xL h a → (eSc E).slots[j]? = some (eI (xA h a j)))
def ev_H (E : ev_E) (h : ev_hs) (H : Heap) : Prop :=
  H.size = xZ h ∧ e0 E ≤ xZ h ∧ xE h = eEm E ∧ xM h = eMi E ∧ (eHb E).size = e0 E ∧ (∀ q, q < e0 E → H[q]? = (eHb E)[q]?) ∧
  ∀ a, xK h a ≠ 0 → a < xZ h ∧ xL h a < 2147483648 ∧ (e0 E ≤ a ∨ xK h a = 58 ∨ (xK h a = 52 ∧ xL h a = 0)) ∧ ev_at E h H a
def ev_K (E : ev_E) (U : State) : Prop :=
  va_K (eD E) evC [] U ∧ (∀ t, 50 ≤ t → t ≤ 57 → ArrOfT U (eA E t) (evTy t) ∧ va_RA U (eA E t) (evTy t)) ∧ U.isArrayOf (eSc E) .int ∧ (eSc E).vm ≠ .unknown ∧
  ev_X U ∧ va_Mi "[Ljava/lang/Object;" (eMi E) U ∧ va_Dc U ∧
  va_Z "java/util/ArrayList" "DEFAULTCAPACITY_EMPTY_ELEMENTDATA" "[Ljava/lang/Object;" (.ref (eEm E)) (fun q => e0 E ≤ q) U (eHb E)
def ev_Ro (d mc ms : Nat) (R : Room) : Prop := d ≤ R.frames ∧ 40 * d ≤ R.locals ∧ mc ≤ R.cells ∧ ms ≤ R.slots
def ev_S (E : ev_E) (M : ev_M) (d mc ms : Nat) (p : Program) (R : Room) (s : State) (m : MethodId) (args : Array Value) (meth : Method) (c : Code) : Prop :=
  p.tables.exec = Jvm.exec ∧ c.code = mB M ∧ c.maxLocals = mL M ∧ s.vm.findClass (mY M).cls = some m.cls ∧ meth.name = (mY M).name ∧ (∀ w ∈ evW, w.before args s = true) ∧ ev_K E s ∧ ev_Ro d mc ms R
-- a return at pc with the stack st gives o
def ev_V (M : ev_M) (pc : Nat) (o : Option Value) (st : List Value) : Prop :=
  (decode (mB M) pc = .ok (.ireturn, 1) ∧ ∃ (v : Int32) (ty : FieldType), o = some (.int v) ∧ st = [.int v] ∧ mR M = some ty ∧ narrow ty (.int v) = .int v) ∨
  (decode (mB M) pc = .ok (.areturn, 1) ∧ ∃ (r : Option Nat) (rt : FieldType), o = some (va_rf r) ∧ st = [va_rf r] ∧ mR M = some rt ∧ ((∃ n, rt = .object n) ∨ ∃ t, rt = .array t)) ∨
  (decode (mB M) pc = .ok (.return_, 1) ∧ o = none ∧ st = [] ∧ mR M = none)
def ev_T (E : ev_E) (M : ev_M) (x : Option Value × ev_hs) (mc ms : Nat) (p : Program) (e : Env) (R : Room) (s : State) (m : MethodId) (args : Array Value) (below : List Frame) (meth : Method) (c : Code) (Z : State → Prop) : Prop :=
  ∀ (H : Heap) (locs : List Loc) (pc : Nat) (ls : Array Slot) (st : List Value), ev_H E x.2 H → (∀ q ∈ locs, e0 E ≤ q.base) → ev_V M pc x.1 st → W p (eLa E) e R s m args below meth c H locs mc ms Z (F0 m pc ls st)
def ev_L (ls : Array Slot) (nL : Nat) (lo : List (Option Value)) : Prop :=
  ls.size = nL ∧ lv_wf ls ∧ ∀ (i : Nat) (v : Value), lo[i]? = some (some v) → ls[i]? = some (.val v) ∧ v.category = 1
def Ev (E : ev_E) (M : ev_M) (d pc : Nat) (lo : List (Option Value)) (st : List Value) (h : ev_hs) (x : Option Value × ev_hs) : Prop :=
  xC h ≤ xC x.2 ∧ xS h ≤ xS x.2 ∧
  ∀ (p : Program) (e : Env) (R : Room) (s : State) (m : MethodId) (args : Array Value) (below : List Frame) (meth : Method) (c : Code) (Z : State → Prop) (mc ms : Nat),
    ev_S E M d mc ms p R s m args meth c → ev_T E M x mc ms p e R s m args below meth c Z →
    ∀ (H : Heap) (locs : List Loc) (cells slots : Nat) (ls : Array Slot), ev_H E h H → (∀ q ∈ locs, e0 E ≤ q.base) → ev_L ls (mL M) lo → cells + (xC x.2 - xC h) ≤ mc → slots + (xS x.2 - xS h) ≤ ms →
      W p (eLa E) e R s m args below meth c H locs cells slots Z (F0 m pc ls st)
def EvO {α : Type} (E : ev_E) (M : ev_M) (d : Nat) (cv : α → Option Value × ev_hs) (pc : Nat) (lo : List (Option Value)) (st : List Value) (h : ev_hs) (o : Option α) : Prop :=
  ∀ x, o = some x → Ev E M d pc lo st h (cv x)
def cvI (y : Int × ev_hs) : Option Value × ev_hs := (some (eI y.1), y.2)
def cvR (y : Option Nat × ev_hs) : Option Value × ev_hs := (some (va_rf y.1), y.2)
def cvV (y : ev_hs) : Option Value × ev_hs := (none, y)
theorem va_rf_cat (o : Option Nat) : (va_rf o).category = 1 := by cases o <;> rfl
theorem eI_cat (z : Int) : (eI z).category = 1 := rfl
def ev_sm (st : List Value) (j : Nat) : Prop := (st.map fun v => v.category).sum ≤ j
theorem ev_sm0 : ev_sm [] 0 := Nat.le_refl _
theorem ev_smc {v : Value} {st : List Value} {j : Nat} (hv : v.category = 1) (hs : ev_sm st j) : ev_sm (v :: st) (j + 1) := by
  unfold ev_sm at *
  simp only [List.map_cons, List.sum_cons, hv]
  omega
def ev_sub : List (Option Value) → List (Option Value) → Prop
  | [], _ => True
  | none :: r, _ :: s => ev_sub r s
  | some v :: r, a :: s => a = some v ∧ ev_sub r s
  | _ :: _, [] => False
theorem ev_sub0 {l : List (Option Value)} : ev_sub [] l := trivial
theorem ev_subN {r s : List (Option Value)} {a : Option Value} (h : ev_sub r s) : ev_sub (none :: r) (a :: s) := h
theorem ev_subS {r s : List (Option Value)} {v : Value} (h : ev_sub r s) : ev_sub (some v :: r) (some v :: s) := ⟨rfl, h⟩
theorem ev_sub_get {lo' lo : List (Option Value)} (hs : ev_sub lo' lo) {i : Nat} {v : Value} (hi : lo'[i]? = some (some v)) : lo[i]? = some (some v) := by
  induction lo' generalizing lo i with
  | nil => simp at hi
  | cons b r ih =>
    cases lo with
    | nil => cases b <;> exact hs.elim
    | cons a s =>
      cases b with
      | none =>
        cases i with
        | zero => simp at hi
        | succ i => exact ih (lo := s) hs hi
      | some w =>
        cases i with
        | zero =>
          simp at hi
          subst hi
          simp [hs.1]
        | succ i => exact ih (lo := s) hs.2 hi
def jn {α γ : Type} (F : γ) (R : γ → Option α) : Option α := R F
def FU : Nat := 100000
section Rules
variable {α : Type} {E : ev_E} {M : ev_M} {d : Nat} {cv : α → Option Value × ev_hs} {pc : Nat} {lo : List (Option Value)} {st : List Value} {h : ev_hs} {o : Option α}
theorem ev_jn {γ : Type} {F : γ} {R : γ → Option α} (P : γ → Prop) (hF : P F) (hR : ∀ J, P J → EvO E M d cv pc lo st h (R J)) : EvO E M d cv pc lo st h (jn F R) := hR F hF
theorem ev_wk {lo' : List (Option Value)} (k : EvO E M d cv pc lo' st h o) (hs : ev_sub lo' lo) : EvO E M d cv pc lo st h o := by
  intro x hx
  obtain ⟨h1, h2, h3⟩ := k x hx
  exact ⟨h1, h2, fun p e R s m args below meth c Z mc ms hS hT H locs cells slots ls hH hl hL hc hs' => h3 p e R s m args below meth c Z mc ms hS hT H locs cells slots ls hH hl ⟨hL.1, hL.2.1, fun i v hi => hL.2.2 i v (ev_sub_get hs hi)⟩ hc hs'⟩
theorem ev_no : EvO E M d cv pc lo st h none := fun x hx => by cases hx
-- an instruction that changes neither heap nor locals
theorem ev_lift {pc' : Nat} {st' : List Value}
    (step : ∀ {p : Program} {e : Env} {R : Room} {s : State} {m : MethodId} {args : Array Value} {below : List Frame} {meth : Method} {c : Code} {H : Heap} {locs : List Loc} {cells slots : Nat} {Z : State → Prop} {ls : Array Slot} {mc ms : Nat},
      ev_S E M d mc ms p R s m args meth c → ev_L ls (mL M) lo → W p (eLa E) e R s m args below meth c H locs cells slots Z (F0 m pc' ls st') → W p (eLa E) e R s m args below meth c H locs cells slots Z (F0 m pc ls st))
    (k : EvO E M d cv pc' lo st' h o) : EvO E M d cv pc lo st h o := by
  intro x hx
  obtain ⟨h1, h2, h3⟩ := k x hx
  exact ⟨h1, h2, fun p e R s m args below meth c Z mc ms hS hT H locs cells slots ls hH hl hL hc hs => step hS hL (h3 p e R s m args below meth c Z mc ms hS hT H locs cells slots ls hH hl hL hc hs)⟩
-- the same, with the heap at hand
theorem ev_liftH {pc' : Nat} {st' : List Value}
    (step : ∀ {p : Program} {e : Env} {R : Room} {s : State} {m : MethodId} {args : Array Value} {below : List Frame} {meth : Method} {c : Code} {H : Heap} {locs : List Loc} {cells slots : Nat} {Z : State → Prop} {ls : Array Slot} {mc ms : Nat},
      ev_S E M d mc ms p R s m args meth c → ev_L ls (mL M) lo → ev_H E h H → (∀ q ∈ locs, e0 E ≤ q.base) → W p (eLa E) e R s m args below meth c H locs cells slots Z (F0 m pc' ls st') → W p (eLa E) e R s m args below meth c H locs cells slots Z (F0 m pc ls st))
    (k : EvO E M d cv pc' lo st' h o) : EvO E M d cv pc lo st h o := by
  intro x hx
  obtain ⟨h1, h2, h3⟩ := k x hx
  exact ⟨h1, h2, fun p e R s m args below meth c Z mc ms hS hT H locs cells slots ls hH hl hL hc hs => step hS hL hH hl (h3 p e R s m args below meth c Z mc ms hS hT H locs cells slots ls hH hl hL hc hs)⟩
-- the locals change
theorem ev_liftL {pc' : Nat} {lo' : List (Option Value)} {st' : List Value}
    (step : ∀ {p : Program} {e : Env} {R : Room} {s : State} {m : MethodId} {args : Array Value} {below : List Frame} {meth : Method} {c : Code} {H : Heap} {locs : List Loc} {cells slots : Nat} {Z : State → Prop} {ls : Array Slot} {mc ms : Nat},
      ev_S E M d mc ms p R s m args meth c → ev_L ls (mL M) lo → (∀ ls', ev_L ls' (mL M) lo' → W p (eLa E) e R s m args below meth c H locs cells slots Z (F0 m pc' ls' st')) → W p (eLa E) e R s m args below meth c H locs cells slots Z (F0 m pc ls st))
    (k : EvO E M d cv pc' lo' st' h o) : EvO E M d cv pc lo st h o := by
  intro x hx
  obtain ⟨h1, h2, h3⟩ := k x hx
  exact ⟨h1, h2, fun p e R s m args below meth c Z mc ms hS hT H locs cells slots ls hH hl hL hc hs => step hS hL (fun ls' hL' => h3 p e R s m args below meth c Z mc ms hS hT H locs cells slots ls' hH hl hL' hc hs)⟩
-- the heap changes: cells of ours alone; c1, s1 cells and slots are new
theorem ev_liftW {pc' : Nat} {st' : List Value} {h' : ev_hs} {c1 s1 : Nat} (hc1 : xC h' = xC h + c1) (hs1 : xS h' = xS h + s1)
    (step : ∀ {p : Program} {e : Env} {R : Room} {s : State} {m : MethodId} {args : Array Value} {below : List Frame} {meth : Method} {c : Code} {H : Heap} {locs : List Loc} {cells slots : Nat} {Z : State → Prop} {ls : Array Slot} {mc ms : Nat},
      ev_S E M d mc ms p R s m args meth c → ev_L ls (mL M) lo → ev_H E h H → (∀ q ∈ locs, e0 E ≤ q.base) → cells + c1 ≤ mc → slots + s1 ≤ ms →
      (∀ (H' : Heap) (locs' : List Loc), ev_H E h' H' → (∀ q ∈ locs', e0 E ≤ q.base) → W p (eLa E) e R s m args below meth c H' locs' (cells + c1) (slots + s1) Z (F0 m pc' ls st')) → W p (eLa E) e R s m args below meth c H locs cells slots Z (F0 m pc ls st))
    (k : EvO E M d cv pc' lo st' h' o) : EvO E M d cv pc lo st h o := by
  intro x hx
  obtain ⟨h1, h2, h3⟩ := k x hx
  refine ⟨by omega, by omega, fun p e R s m args below meth c Z mc ms hS hT H locs cells slots ls hH hl hL hc hs => step hS hL hH hl (by omega) (by omega) (fun H' locs' hH' hl' => h3 p e R s m args below meth c Z mc ms hS hT H' locs' (cells + c1) (slots + s1) ls hH' hl' hL (by omega) (by omega))⟩
end Rules
end
section
section Rules2
variable {α : Type} {E : ev_E} {M : ev_M} {d : Nat} {cv : α → Option Value × ev_hs} {pc : Nat} {lo : List (Option Value)} {st : List Value} {h : ev_hs} {o : Option α}
def ev_al (lo : List (Option Value)) : List (Nat × Value) := lo.zipIdx.filterMap (fun q => q.1.map (fun v => (q.2, v)))
theorem ev_al_mem {lo : List (Option Value)} {j : Nat} {w : Value} : (j, w) ∈ ev_al lo ↔ lo[j]? = some (some w) := by
  unfold ev_al
  rw [List.mem_filterMap]
  constructor
  · rintro ⟨⟨x, i⟩, hm, he⟩
    rw [List.mem_zipIdx_iff_getElem?] at hm
    cases x with
    | none => simp at he
    | some v =>
      simp at he
      obtain ⟨rfl, rfl⟩ := he
      exact hm
  · intro hj
    exact ⟨(some w, j), List.mem_zipIdx_iff_getElem?.mpr hj, rfl⟩
theorem ev_L.has {ls : Array Slot} {nL : Nat} (hh : ev_L ls nL lo) : lv_has ls nL (ev_al lo) := ⟨hh.1, hh.2.1, fun q hq => (hh.2.2 q.1 q.2 (ev_al_mem.mp hq)).1⟩
theorem ev_L.of {ls ls' : Array Slot} {nL i : Nat} {v : Value} (hh : ev_L ls nL lo) (h' : lv_has ls' nL ((i, v) :: (ev_al lo).filter (fun q => !(q.1 == i) && !(q.1 + 1 == i && q.2.category == 2)))) (hc : v.category = 1) : ev_L ls' nL (lo.set i (some v)) := by
  refine ⟨h'.1, h'.2.1, fun j w hj => ?_⟩
  by_cases hji : j = i
  · subst hji
    rw [List.getElem?_set] at hj
    simp at hj
    obtain ⟨_, rfl⟩ := hj
    exact ⟨h'.2.2 (j, v) List.mem_cons_self, hc⟩
  · rw [List.getElem?_set_ne (Ne.symm hji)] at hj
    have hw := hh.2.2 j w hj
    exact ⟨h'.2.2 (j, w) (List.mem_cons_of_mem _ (List.mem_filter.mpr ⟨ev_al_mem.mpr hj, by simp [hji, hw.2]⟩)), hw.2⟩
theorem ev_iconst (n : Nat) {z : Int} (hd : decode (mB M) pc = .ok (.iconst z, 1)) (hn : n = pc + 1) (k : EvO E M d cv n lo (eI z :: st) h o) : EvO E M d cv pc lo st h o := by
  subst hn
  exact ev_lift (fun hS _ w => lv_iconst hS.1 hS.2.1 hd rfl w) k
theorem ev_bipush (n : Nat) {z : Int} (hd : decode (mB M) pc = .ok (.bipush z, 2)) (hz : (Int8.ofInt z).toInt32 = Int32.ofInt z) (hn : n = pc + 2) (k : EvO E M d cv n lo (eI z :: st) h o) : EvO E M d cv pc lo st h o := by
  subst hn
  exact ev_lift (fun hS _ w => lv_bipush hS.1 hS.2.1 hd hz w) k
theorem ev_sipush (n : Nat) {z : Int} (hd : decode (mB M) pc = .ok (.sipush z, 3)) (hz : (Int16.ofInt z).toInt32 = Int32.ofInt z) (hn : n = pc + 3) (k : EvO E M d cv n lo (eI z :: st) h o) : EvO E M d cv pc lo st h o := by
  subst hn
  exact ev_lift (fun hS _ w => lv_sipush hS.1 hS.2.1 hd hz w) k
theorem ev_ldc (n : Nat) {z : Int} {ix : Nat} (hd : decode (mB M) pc = .ok (.ldc ix, 2)) (hw : Cond.constant (mY M).cls ix (Int32.ofInt z) ∈ evW) (hn : n = pc + 2) (k : EvO E M d cv n lo (eI z :: st) h o) : EvO E M d cv pc lo st h o := by
  subst hn
  exact ev_lift (fun hS _ w => lv_ldc hS.1 hS.2.1 hS.2.2.2.1 (hS.2.2.2.2.2.1 _ hw) hd w) k
theorem ev_null (n : Nat) (hd : decode (mB M) pc = .ok (.aconst_null, 1)) (hn : n = pc + 1) (k : EvO E M d cv n lo (va_rf none :: st) h o) : EvO E M d cv pc lo st h o := by
  subst hn
  exact ev_lift (fun hS _ w => lv_null hS.1 hS.2.1 hd w) k
theorem ev_iadd (n : Nat) {a b : Int} (hd : decode (mB M) pc = .ok (.iadd, 1)) (hn : n = pc + 1) (k : EvO E M d cv n lo (eI (a + b) :: st) h o) : EvO E M d cv pc lo (eI b :: eI a :: st) h o := by
  subst hn
  exact ev_lift (fun hS _ w => lv_iadd hS.1 hS.2.1 hd (by rw [eI_add]; exact w)) k
theorem ev_isub (n : Nat) {a b : Int} (hd : decode (mB M) pc = .ok (.isub, 1)) (hn : n = pc + 1) (k : EvO E M d cv n lo (eI (a - b) :: st) h o) : EvO E M d cv pc lo (eI b :: eI a :: st) h o := by
  subst hn
  exact ev_lift (fun hS _ w => lv_isub hS.1 hS.2.1 hd (by rw [eI_sub]; exact w)) k
theorem ev_imul (n : Nat) {a b : Int} (hd : decode (mB M) pc = .ok (.imul, 1)) (hn : n = pc + 1) (k : EvO E M d cv n lo (eI (a * b) :: st) h o) : EvO E M d cv pc lo (eI b :: eI a :: st) h o := by
  subst hn
  exact ev_lift (fun hS _ w => lv_imul hS.1 hS.2.1 hd (by rw [eI_mul]; exact w)) k
theorem ev_ineg (n : Nat) {a : Int} (hd : decode (mB M) pc = .ok (.ineg, 1)) (hn : n = pc + 1) (k : EvO E M d cv n lo (eI (-a) :: st) h o) : EvO E M d cv pc lo (eI a :: st) h o := by
  subst hn
  exact ev_lift (fun hS _ w => lv_ineg hS.1 hS.2.1 hd (by rw [eI_neg]; exact w)) k
theorem ev_iand (n : Nat) {a b : Int} (hd : decode (mB M) pc = .ok (.iand, 1)) (hn : n = pc + 1) (k : EvO E M d cv n lo (eI (eAnd a b) :: st) h o) : EvO E M d cv pc lo (eI b :: eI a :: st) h o := by
  subst hn
  exact ev_lift (fun hS _ w => lv_iand hS.1 hS.2.1 hd (by simp only [eAnd, eI, eI_toI] at w; exact w)) k
theorem ev_ior (n : Nat) {a b : Int} (hd : decode (mB M) pc = .ok (.ior, 1)) (hn : n = pc + 1) (k : EvO E M d cv n lo (eI (eOr a b) :: st) h o) : EvO E M d cv pc lo (eI b :: eI a :: st) h o := by
  subst hn
  exact ev_lift (fun hS _ w => lv_ior hS.1 hS.2.1 hd (by simp only [eOr, eI, eI_toI] at w; exact w)) k
theorem ev_ixor (n : Nat) {a b : Int} (hd : decode (mB M) pc = .ok (.ixor, 1)) (hn : n = pc + 1) (k : EvO E M d cv n lo (eI (eXor a b) :: st) h o) : EvO E M d cv pc lo (eI b :: eI a :: st) h o := by
  subst hn
  exact ev_lift (fun hS _ w => lv_ixor hS.1 hS.2.1 hd (by simp only [eXor, eI, eI_toI] at w; exact w)) k
theorem ev_ishl (n : Nat) {a b : Int} (hd : decode (mB M) pc = .ok (.ishl, 1)) (hn : n = pc + 1) (k : EvO E M d cv n lo (eI (eShl a b) :: st) h o) : EvO E M d cv pc lo (eI b :: eI a :: st) h o := by
  subst hn
  exact ev_lift (fun hS _ w => lv_ishl hS.1 hS.2.1 hd (by simp only [eShl, eI, eI_toI] at w; exact w)) k
theorem ev_ishr (n : Nat) {a b : Int} (hd : decode (mB M) pc = .ok (.ishr, 1)) (hn : n = pc + 1) (k : EvO E M d cv n lo (eI (eShr a b) :: st) h o) : EvO E M d cv pc lo (eI b :: eI a :: st) h o := by
  subst hn
  exact ev_lift (fun hS _ w => lv_ishr hS.1 hS.2.1 hd (by simp only [eShr, eI, eI_toI] at w; exact w)) k
theorem ev_iushr (n : Nat) {a b : Int} (hd : decode (mB M) pc = .ok (.iushr, 1)) (hn : n = pc + 1) (k : EvO E M d cv n lo (eI (eUshr a b) :: st) h o) : EvO E M d cv pc lo (eI b :: eI a :: st) h o := by
  subst hn
  exact ev_lift (fun hS _ w => lv_iushr hS.1 hS.2.1 hd (eI_toI _).symm w) k
theorem ev_idiv (n : Nat) {a b : Int} {K : Int → Option α} (hd : decode (mB M) pc = .ok (.idiv, 1)) (hn : n = pc + 1) (k : ∀ z, EvO E M d cv n lo (eI z :: st) h (K z)) : EvO E M d cv pc lo (eI b :: eI a :: st) h (eDiv a b K) := by
  subst hn
  unfold eDiv
  split
  · rename_i hc
    obtain ⟨h0, h1, h2, h3⟩ := hc
    have hne : ¬ Int32.ofInt b = 0 := fun q => by
      have := eI_inj (a := b) (b := 0) (eOk_iff.mpr (by omega)) (by decide) q
      omega
    exact ev_lift (fun hS _ w => lv_idiv hS.1 hS.2.1 hd hne (by rw [eI_div h0 h1 h2 h3]; exact w)) (k _)
  · exact ev_no
theorem ev_irem (n : Nat) {a b : Int} {K : Int → Option α} (hd : decode (mB M) pc = .ok (.irem, 1)) (hn : n = pc + 1) (k : ∀ z, EvO E M d cv n lo (eI z :: st) h (K z)) : EvO E M d cv pc lo (eI b :: eI a :: st) h (eRem a b K) := by
  subst hn
  unfold eRem
  split
  · rename_i hc
    obtain ⟨h0, h1, h2, h3⟩ := hc
    have hne : ¬ Int32.ofInt b = 0 := fun q => by
      have := eI_inj (a := b) (b := 0) (eOk_iff.mpr (by omega)) (by decide) q
      omega
    exact ev_lift (fun hS _ w => lv_irem hS.1 hS.2.1 hd hne (by rw [eI_rem h0 h1 h2 h3]; exact w)) (k _)
  · exact ev_no
theorem ev_dup (n : Nat) {v : Value} (hd : decode (mB M) pc = .ok (.dup, 1)) (hv : v.category = 1) (hn : n = pc + 1) (k : EvO E M d cv n lo (v :: v :: st) h o) : EvO E M d cv pc lo (v :: st) h o := by
  subst hn
  exact ev_lift (fun hS _ w => lv_dup hS.1 hS.2.1 hd hv w) k
theorem ev_pop (n : Nat) {v : Value} (hd : decode (mB M) pc = .ok (.pop, 1)) (hv : v.category = 1) (hn : n = pc + 1) (k : EvO E M d cv n lo st h o) : EvO E M d cv pc lo (v :: st) h o := by
  subst hn
  exact ev_lift (fun hS _ w => lv_pop hS.1 hS.2.1 hd hv w) k
theorem ev_dup_x1 (n : Nat) {v u : Value} (hd : decode (mB M) pc = .ok (.dup_x1, 1)) (hv : v.category = 1) (hu : u.category = 1) (hn : n = pc + 1) (k : EvO E M d cv n lo (v :: u :: v :: st) h o) : EvO E M d cv pc lo (v :: u :: st) h o := by
  subst hn
  exact ev_lift (fun hS _ w => lv_dup_x1 hS.1 hS.2.1 hd hv hu w) k
theorem ev_dup_x2 (n : Nat) {v u t : Value} (hd : decode (mB M) pc = .ok (.dup_x2, 1)) (hv : v.category = 1) (hu : u.category = 1) (ht : t.category = 1) (hn : n = pc + 1) (k : EvO E M d cv n lo (v :: u :: t :: v :: st) h o) : EvO E M d cv pc lo (v :: u :: t :: st) h o := by
  subst hn
  exact ev_lift (fun hS _ w => lv_dup_x2 hS.1 hS.2.1 hd hv hu ht w) k
theorem ev_dup2 (n : Nat) {v u : Value} (hd : decode (mB M) pc = .ok (.dup2, 1)) (hv : v.category = 1) (hu : u.category = 1) (hn : n = pc + 1) (k : EvO E M d cv n lo (v :: u :: v :: u :: st) h o) : EvO E M d cv pc lo (v :: u :: st) h o := by
  subst hn
  exact ev_lift (fun hS _ w => lv_dup2_11 hS.1 hS.2.1 hd hv hu w) k
theorem ev_goto (t : Nat) {off : Int} (hd : decode (mB M) pc = .ok (.goto off, 3)) (ht : (pc : Int) + off = (t : Int)) (k : EvO E M d cv t lo st h o) : EvO E M d cv pc lo st h o :=
  ev_lift (fun hS _ w => lv_goto hS.1 hS.2.1 hd ht w) k
theorem ev_iload0 (n : Nat) {r : List (Option Value)} {z : Int} (hd : decode (mB M) pc = .ok (.iload_n (0 : Fin 4), 1)) (hn : n = pc + 1) (k : EvO E M d cv n (some (eI z) :: r) (eI z :: st) h o) : EvO E M d cv pc (some (eI z) :: r) st h o := by
  subst hn
  exact ev_lift (fun hS hL w => lv_iload_n hS.1 hS.2.1 hd rfl (hL.2.2 0 (eI z) rfl).1 w) k
theorem ev_aload0 (n : Nat) {r : List (Option Value)} {q : Option Nat} (hd : decode (mB M) pc = .ok (.aload_n (0 : Fin 4), 1)) (hn : n = pc + 1) (k : EvO E M d cv n (some (va_rf q) :: r) (va_rf q :: st) h o) : EvO E M d cv pc (some (va_rf q) :: r) st h o := by
  subst hn
  refine ev_lift (fun hS hL w => ?_) k
  have hl := (hL.2.2 0 (va_rf q) rfl).1
  cases q with
  | none => exact lv_aload_nN hS.1 hS.2.1 hd rfl hl w
  | some a => exact lv_aload_n hS.1 hS.2.1 hd rfl hl w
theorem ev_istore0 (n : Nat) {a0 : Option Value} {r : List (Option Value)} {z : Int} (hd : decode (mB M) pc = .ok (.istore_n (0 : Fin 4), 1)) (hi : 0 < mL M) (hn : n = pc + 1) (k : EvO E M d cv n (some (eI z) :: r) st h o) : EvO E M d cv pc (a0 :: r) (eI z :: st) h o := by
  subst hn
  exact ev_liftL (fun hS hL w => lv_istore_n hS.1 hS.2.1 hd rfl hL.has hi rfl (fun ls' h' => w ls' (hL.of h' rfl))) k
theorem ev_astore0 (n : Nat) {a0 : Option Value} {r : List (Option Value)} {q : Option Nat} (hd : decode (mB M) pc = .ok (.astore_n (0 : Fin 4), 1)) (hi : 0 < mL M) (hn : n = pc + 1) (k : EvO E M d cv n (some (va_rf q) :: r) st h o) : EvO E M d cv pc (a0 :: r) (va_rf q :: st) h o := by
  subst hn
  cases q with
  | none => exact ev_liftL (fun hS hL w => lv_astore_nN hS.1 hS.2.1 hd rfl hL.has hi rfl (fun ls' h' => w ls' (hL.of h' rfl))) k
  | some a => exact ev_liftL (fun hS hL w => lv_astore_n hS.1 hS.2.1 hd rfl hL.has hi rfl (fun ls' h' => w ls' (hL.of h' rfl))) k
theorem ev_iinc0 (n : Nat) {r : List (Option Value)} {z y : Int} (hd : decode (mB M) pc = .ok (.iinc 0 y, 3)) (hi : 0 < mL M) (hn : n = pc + 3) (k : EvO E M d cv n (some (eI (z + y)) :: r) st h o) : EvO E M d cv pc (some (eI z) :: r) st h o := by
  subst hn
  refine ev_liftL (fun hS hL w => ?_) k
  obtain ⟨k9, hk9⟩ := List.getElem?_of_mem (ev_al_mem.mpr (show (some (eI z) :: r)[0]? = some (some (eI z)) from rfl))
  exact lv_iinc hS.1 hS.2.1 hd hL.has hk9 (eI_add z y) hi rfl (fun ls' h' => w ls' (hL.of h' rfl))
theorem ev_iload1 (n : Nat) {a0 : Option Value} {r : List (Option Value)} {z : Int} (hd : decode (mB M) pc = .ok (.iload_n (1 : Fin 4), 1)) (hn : n = pc + 1) (k : EvO E M d cv n (a0 :: some (eI z) :: r) (eI z :: st) h o) : EvO E M d cv pc (a0 :: some (eI z) :: r) st h o := by
  subst hn
  exact ev_lift (fun hS hL w => lv_iload_n hS.1 hS.2.1 hd rfl (hL.2.2 1 (eI z) rfl).1 w) k
theorem ev_aload1 (n : Nat) {a0 : Option Value} {r : List (Option Value)} {q : Option Nat} (hd : decode (mB M) pc = .ok (.aload_n (1 : Fin 4), 1)) (hn : n = pc + 1) (k : EvO E M d cv n (a0 :: some (va_rf q) :: r) (va_rf q :: st) h o) : EvO E M d cv pc (a0 :: some (va_rf q) :: r) st h o := by
  subst hn
  refine ev_lift (fun hS hL w => ?_) k
  have hl := (hL.2.2 1 (va_rf q) rfl).1
  cases q with
  | none => exact lv_aload_nN hS.1 hS.2.1 hd rfl hl w
  | some a => exact lv_aload_n hS.1 hS.2.1 hd rfl hl w
theorem ev_istore1 (n : Nat) {a0 : Option Value} {a1 : Option Value} {r : List (Option Value)} {z : Int} (hd : decode (mB M) pc = .ok (.istore_n (1 : Fin 4), 1)) (hi : 1 < mL M) (hn : n = pc + 1) (k : EvO E M d cv n (a0 :: some (eI z) :: r) st h o) : EvO E M d cv pc (a0 :: a1 :: r) (eI z :: st) h o := by
  subst hn
  exact ev_liftL (fun hS hL w => lv_istore_n hS.1 hS.2.1 hd rfl hL.has hi rfl (fun ls' h' => w ls' (hL.of h' rfl))) k
theorem ev_astore1 (n : Nat) {a0 : Option Value} {a1 : Option Value} {r : List (Option Value)} {q : Option Nat} (hd : decode (mB M) pc = .ok (.astore_n (1 : Fin 4), 1)) (hi : 1 < mL M) (hn : n = pc + 1) (k : EvO E M d cv n (a0 :: some (va_rf q) :: r) st h o) : EvO E M d cv pc (a0 :: a1 :: r) (va_rf q :: st) h o := by
  subst hn
  cases q with
  | none => exact ev_liftL (fun hS hL w => lv_astore_nN hS.1 hS.2.1 hd rfl hL.has hi rfl (fun ls' h' => w ls' (hL.of h' rfl))) k
  | some a => exact ev_liftL (fun hS hL w => lv_astore_n hS.1 hS.2.1 hd rfl hL.has hi rfl (fun ls' h' => w ls' (hL.of h' rfl))) k
theorem ev_iinc1 (n : Nat) {a0 : Option Value} {r : List (Option Value)} {z y : Int} (hd : decode (mB M) pc = .ok (.iinc 1 y, 3)) (hi : 1 < mL M) (hn : n = pc + 3) (k : EvO E M d cv n (a0 :: some (eI (z + y)) :: r) st h o) : EvO E M d cv pc (a0 :: some (eI z) :: r) st h o := by
  subst hn
  refine ev_liftL (fun hS hL w => ?_) k
  obtain ⟨k9, hk9⟩ := List.getElem?_of_mem (ev_al_mem.mpr (show (a0 :: some (eI z) :: r)[1]? = some (some (eI z)) from rfl))
  exact lv_iinc hS.1 hS.2.1 hd hL.has hk9 (eI_add z y) hi rfl (fun ls' h' => w ls' (hL.of h' rfl))
theorem ev_iload2 (n : Nat) {a0 a1 : Option Value} {r : List (Option Value)} {z : Int} (hd : decode (mB M) pc = .ok (.iload_n (2 : Fin 4), 1)) (hn : n = pc + 1) (k : EvO E M d cv n (a0 :: a1 :: some (eI z) :: r) (eI z :: st) h o) : EvO E M d cv pc (a0 :: a1 :: some (eI z) :: r) st h o := by
  subst hn
  exact ev_lift (fun hS hL w => lv_iload_n hS.1 hS.2.1 hd rfl (hL.2.2 2 (eI z) rfl).1 w) k
theorem ev_aload2 (n : Nat) {a0 a1 : Option Value} {r : List (Option Value)} {q : Option Nat} (hd : decode (mB M) pc = .ok (.aload_n (2 : Fin 4), 1)) (hn : n = pc + 1) (k : EvO E M d cv n (a0 :: a1 :: some (va_rf q) :: r) (va_rf q :: st) h o) : EvO E M d cv pc (a0 :: a1 :: some (va_rf q) :: r) st h o := by
  subst hn
  refine ev_lift (fun hS hL w => ?_) k
  have hl := (hL.2.2 2 (va_rf q) rfl).1
  cases q with
  | none => exact lv_aload_nN hS.1 hS.2.1 hd rfl hl w
  | some a => exact lv_aload_n hS.1 hS.2.1 hd rfl hl w
theorem ev_istore2 (n : Nat) {a0 a1 : Option Value} {a2 : Option Value} {r : List (Option Value)} {z : Int} (hd : decode (mB M) pc = .ok (.istore_n (2 : Fin 4), 1)) (hi : 2 < mL M) (hn : n = pc + 1) (k : EvO E M d cv n (a0 :: a1 :: some (eI z) :: r) st h o) : EvO E M d cv pc (a0 :: a1 :: a2 :: r) (eI z :: st) h o := by
  subst hn
  exact ev_liftL (fun hS hL w => lv_istore_n hS.1 hS.2.1 hd rfl hL.has hi rfl (fun ls' h' => w ls' (hL.of h' rfl))) k
theorem ev_astore2 (n : Nat) {a0 a1 : Option Value} {a2 : Option Value} {r : List (Option Value)} {q : Option Nat} (hd : decode (mB M) pc = .ok (.astore_n (2 : Fin 4), 1)) (hi : 2 < mL M) (hn : n = pc + 1) (k : EvO E M d cv n (a0 :: a1 :: some (va_rf q) :: r) st h o) : EvO E M d cv pc (a0 :: a1 :: a2 :: r) (va_rf q :: st) h o := by
  subst hn
  cases q with
  | none => exact ev_liftL (fun hS hL w => lv_astore_nN hS.1 hS.2.1 hd rfl hL.has hi rfl (fun ls' h' => w ls' (hL.of h' rfl))) k
  | some a => exact ev_liftL (fun hS hL w => lv_astore_n hS.1 hS.2.1 hd rfl hL.has hi rfl (fun ls' h' => w ls' (hL.of h' rfl))) k
theorem ev_iinc2 (n : Nat) {a0 a1 : Option Value} {r : List (Option Value)} {z y : Int} (hd : decode (mB M) pc = .ok (.iinc 2 y, 3)) (hi : 2 < mL M) (hn : n = pc + 3) (k : EvO E M d cv n (a0 :: a1 :: some (eI (z + y)) :: r) st h o) : EvO E M d cv pc (a0 :: a1 :: some (eI z) :: r) st h o := by
  subst hn
  refine ev_liftL (fun hS hL w => ?_) k
  obtain ⟨k9, hk9⟩ := List.getElem?_of_mem (ev_al_mem.mpr (show (a0 :: a1 :: some (eI z) :: r)[2]? = some (some (eI z)) from rfl))
  exact lv_iinc hS.1 hS.2.1 hd hL.has hk9 (eI_add z y) hi rfl (fun ls' h' => w ls' (hL.of h' rfl))
theorem ev_iload3 (n : Nat) {a0 a1 a2 : Option Value} {r : List (Option Value)} {z : Int} (hd : decode (mB M) pc = .ok (.iload_n (3 : Fin 4), 1)) (hn : n = pc + 1) (k : EvO E M d cv n (a0 :: a1 :: a2 :: some (eI z) :: r) (eI z :: st) h o) : EvO E M d cv pc (a0 :: a1 :: a2 :: some (eI z) :: r) st h o := by
  subst hn
  exact ev_lift (fun hS hL w => lv_iload_n hS.1 hS.2.1 hd rfl (hL.2.2 3 (eI z) rfl).1 w) k
theorem ev_aload3 (n : Nat) {a0 a1 a2 : Option Value} {r : List (Option Value)} {q : Option Nat} (hd : decode (mB M) pc = .ok (.aload_n (3 : Fin 4), 1)) (hn : n = pc + 1) (k : EvO E M d cv n (a0 :: a1 :: a2 :: some (va_rf q) :: r) (va_rf q :: st) h o) : EvO E M d cv pc (a0 :: a1 :: a2 :: some (va_rf q) :: r) st h o := by
  subst hn
  refine ev_lift (fun hS hL w => ?_) k
  have hl := (hL.2.2 3 (va_rf q) rfl).1
  cases q with
  | none => exact lv_aload_nN hS.1 hS.2.1 hd rfl hl w
  | some a => exact lv_aload_n hS.1 hS.2.1 hd rfl hl w
theorem ev_istore3 (n : Nat) {a0 a1 a2 : Option Value} {a3 : Option Value} {r : List (Option Value)} {z : Int} (hd : decode (mB M) pc = .ok (.istore_n (3 : Fin 4), 1)) (hi : 3 < mL M) (hn : n = pc + 1) (k : EvO E M d cv n (a0 :: a1 :: a2 :: some (eI z) :: r) st h o) : EvO E M d cv pc (a0 :: a1 :: a2 :: a3 :: r) (eI z :: st) h o := by
  subst hn
  exact ev_liftL (fun hS hL w => lv_istore_n hS.1 hS.2.1 hd rfl hL.has hi rfl (fun ls' h' => w ls' (hL.of h' rfl))) k
theorem ev_astore3 (n : Nat) {a0 a1 a2 : Option Value} {a3 : Option Value} {r : List (Option Value)} {q : Option Nat} (hd : decode (mB M) pc = .ok (.astore_n (3 : Fin 4), 1)) (hi : 3 < mL M) (hn : n = pc + 1) (k : EvO E M d cv n (a0 :: a1 :: a2 :: some (va_rf q) :: r) st h o) : EvO E M d cv pc (a0 :: a1 :: a2 :: a3 :: r) (va_rf q :: st) h o := by
  subst hn
  cases q with
  | none => exact ev_liftL (fun hS hL w => lv_astore_nN hS.1 hS.2.1 hd rfl hL.has hi rfl (fun ls' h' => w ls' (hL.of h' rfl))) k
  | some a => exact ev_liftL (fun hS hL w => lv_astore_n hS.1 hS.2.1 hd rfl hL.has hi rfl (fun ls' h' => w ls' (hL.of h' rfl))) k
theorem ev_iinc3 (n : Nat) {a0 a1 a2 : Option Value} {r : List (Option Value)} {z y : Int} (hd : decode (mB M) pc = .ok (.iinc 3 y, 3)) (hi : 3 < mL M) (hn : n = pc + 3) (k : EvO E M d cv n (a0 :: a1 :: a2 :: some (eI (z + y)) :: r) st h o) : EvO E M d cv pc (a0 :: a1 :: a2 :: some (eI z) :: r) st h o := by
  subst hn
  refine ev_liftL (fun hS hL w => ?_) k
  obtain ⟨k9, hk9⟩ := List.getElem?_of_mem (ev_al_mem.mpr (show (a0 :: a1 :: a2 :: some (eI z) :: r)[3]? = some (some (eI z)) from rfl))
  exact lv_iinc hS.1 hS.2.1 hd hL.has hk9 (eI_add z y) hi rfl (fun ls' h' => w ls' (hL.of h' rfl))
theorem ev_iload4 (n : Nat) {a0 a1 a2 a3 : Option Value} {r : List (Option Value)} {z : Int} (hd : decode (mB M) pc = .ok (.iload 4, 2)) (hn : n = pc + 2) (k : EvO E M d cv n (a0 :: a1 :: a2 :: a3 :: some (eI z) :: r) (eI z :: st) h o) : EvO E M d cv pc (a0 :: a1 :: a2 :: a3 :: some (eI z) :: r) st h o := by
  subst hn
  exact ev_lift (fun hS hL w => lv_iload hS.1 hS.2.1 hd (hL.2.2 4 (eI z) rfl).1 w) k
theorem ev_aload4 (n : Nat) {a0 a1 a2 a3 : Option Value} {r : List (Option Value)} {q : Option Nat} (hd : decode (mB M) pc = .ok (.aload 4, 2)) (hn : n = pc + 2) (k : EvO E M d cv n (a0 :: a1 :: a2 :: a3 :: some (va_rf q) :: r) (va_rf q :: st) h o) : EvO E M d cv pc (a0 :: a1 :: a2 :: a3 :: some (va_rf q) :: r) st h o := by
  subst hn
  refine ev_lift (fun hS hL w => ?_) k
  have hl := (hL.2.2 4 (va_rf q) rfl).1
  cases q with
  | none => exact lv_aloadN hS.1 hS.2.1 hd hl w
  | some a => exact lv_aload hS.1 hS.2.1 hd hl w
theorem ev_istore4 (n : Nat) {a0 a1 a2 a3 : Option Value} {a4 : Option Value} {r : List (Option Value)} {z : Int} (hd : decode (mB M) pc = .ok (.istore 4, 2)) (hi : 4 < mL M) (hn : n = pc + 2) (k : EvO E M d cv n (a0 :: a1 :: a2 :: a3 :: some (eI z) :: r) st h o) : EvO E M d cv pc (a0 :: a1 :: a2 :: a3 :: a4 :: r) (eI z :: st) h o := by
  subst hn
  exact ev_liftL (fun hS hL w => lv_istore hS.1 hS.2.1 hd hL.has hi rfl (fun ls' h' => w ls' (hL.of h' rfl))) k
theorem ev_astore4 (n : Nat) {a0 a1 a2 a3 : Option Value} {a4 : Option Value} {r : List (Option Value)} {q : Option Nat} (hd : decode (mB M) pc = .ok (.astore 4, 2)) (hi : 4 < mL M) (hn : n = pc + 2) (k : EvO E M d cv n (a0 :: a1 :: a2 :: a3 :: some (va_rf q) :: r) st h o) : EvO E M d cv pc (a0 :: a1 :: a2 :: a3 :: a4 :: r) (va_rf q :: st) h o := by
  subst hn
  cases q with
  | none => exact ev_liftL (fun hS hL w => lv_astoreN hS.1 hS.2.1 hd hL.has hi rfl (fun ls' h' => w ls' (hL.of h' rfl))) k
  | some a => exact ev_liftL (fun hS hL w => lv_astore hS.1 hS.2.1 hd hL.has hi rfl (fun ls' h' => w ls' (hL.of h' rfl))) k
theorem ev_iinc4 (n : Nat) {a0 a1 a2 a3 : Option Value} {r : List (Option Value)} {z y : Int} (hd : decode (mB M) pc = .ok (.iinc 4 y, 3)) (hi : 4 < mL M) (hn : n = pc + 3) (k : EvO E M d cv n (a0 :: a1 :: a2 :: a3 :: some (eI (z + y)) :: r) st h o) : EvO E M d cv pc (a0 :: a1 :: a2 :: a3 :: some (eI z) :: r) st h o := by
  subst hn
  refine ev_liftL (fun hS hL w => ?_) k
  obtain ⟨k9, hk9⟩ := List.getElem?_of_mem (ev_al_mem.mpr (show (a0 :: a1 :: a2 :: a3 :: some (eI z) :: r)[4]? = some (some (eI z)) from rfl))
  exact lv_iinc hS.1 hS.2.1 hd hL.has hk9 (eI_add z y) hi rfl (fun ls' h' => w ls' (hL.of h' rfl))
theorem ev_iload5 (n : Nat) {a0 a1 a2 a3 a4 : Option Value} {r : List (Option Value)} {z : Int} (hd : decode (mB M) pc = .ok (.iload 5, 2)) (hn : n = pc + 2) (k : EvO E M d cv n (a0 :: a1 :: a2 :: a3 :: a4 :: some (eI z) :: r) (eI z :: st) h o) : EvO E M d cv pc (a0 :: a1 :: a2 :: a3 :: a4 :: some (eI z) :: r) st h o := by
  subst hn
  exact ev_lift (fun hS hL w => lv_iload hS.1 hS.2.1 hd (hL.2.2 5 (eI z) rfl).1 w) k
theorem ev_aload5 (n : Nat) {a0 a1 a2 a3 a4 : Option Value} {r : List (Option Value)} {q : Option Nat} (hd : decode (mB M) pc = .ok (.aload 5, 2)) (hn : n = pc + 2) (k : EvO E M d cv n (a0 :: a1 :: a2 :: a3 :: a4 :: some (va_rf q) :: r) (va_rf q :: st) h o) : EvO E M d cv pc (a0 :: a1 :: a2 :: a3 :: a4 :: some (va_rf q) :: r) st h o := by
  subst hn
  refine ev_lift (fun hS hL w => ?_) k
  have hl := (hL.2.2 5 (va_rf q) rfl).1
  cases q with
  | none => exact lv_aloadN hS.1 hS.2.1 hd hl w
  | some a => exact lv_aload hS.1 hS.2.1 hd hl w
theorem ev_istore5 (n : Nat) {a0 a1 a2 a3 a4 : Option Value} {a5 : Option Value} {r : List (Option Value)} {z : Int} (hd : decode (mB M) pc = .ok (.istore 5, 2)) (hi : 5 < mL M) (hn : n = pc + 2) (k : EvO E M d cv n (a0 :: a1 :: a2 :: a3 :: a4 :: some (eI z) :: r) st h o) : EvO E M d cv pc (a0 :: a1 :: a2 :: a3 :: a4 :: a5 :: r) (eI z :: st) h o := by
  subst hn
  exact ev_liftL (fun hS hL w => lv_istore hS.1 hS.2.1 hd hL.has hi rfl (fun ls' h' => w ls' (hL.of h' rfl))) k
theorem ev_astore5 (n : Nat) {a0 a1 a2 a3 a4 : Option Value} {a5 : Option Value} {r : List (Option Value)} {q : Option Nat} (hd : decode (mB M) pc = .ok (.astore 5, 2)) (hi : 5 < mL M) (hn : n = pc + 2) (k : EvO E M d cv n (a0 :: a1 :: a2 :: a3 :: a4 :: some (va_rf q) :: r) st h o) : EvO E M d cv pc (a0 :: a1 :: a2 :: a3 :: a4 :: a5 :: r) (va_rf q :: st) h o := by
  subst hn
  cases q with
  | none => exact ev_liftL (fun hS hL w => lv_astoreN hS.1 hS.2.1 hd hL.has hi rfl (fun ls' h' => w ls' (hL.of h' rfl))) k
  | some a => exact ev_liftL (fun hS hL w => lv_astore hS.1 hS.2.1 hd hL.has hi rfl (fun ls' h' => w ls' (hL.of h' rfl))) k
theorem ev_iinc5 (n : Nat) {a0 a1 a2 a3 a4 : Option Value} {r : List (Option Value)} {z y : Int} (hd : decode (mB M) pc = .ok (.iinc 5 y, 3)) (hi : 5 < mL M) (hn : n = pc + 3) (k : EvO E M d cv n (a0 :: a1 :: a2 :: a3 :: a4 :: some (eI (z + y)) :: r) st h o) : EvO E M d cv pc (a0 :: a1 :: a2 :: a3 :: a4 :: some (eI z) :: r) st h o := by
  subst hn
  refine ev_liftL (fun hS hL w => ?_) k
  obtain ⟨k9, hk9⟩ := List.getElem?_of_mem (ev_al_mem.mpr (show (a0 :: a1 :: a2 :: a3 :: a4 :: some (eI z) :: r)[5]? = some (some (eI z)) from rfl))
  exact lv_iinc hS.1 hS.2.1 hd hL.has hk9 (eI_add z y) hi rfl (fun ls' h' => w ls' (hL.of h' rfl))
theorem ev_iload6 (n : Nat) {a0 a1 a2 a3 a4 a5 : Option Value} {r : List (Option Value)} {z : Int} (hd : decode (mB M) pc = .ok (.iload 6, 2)) (hn : n = pc + 2) (k : EvO E M d cv n (a0 :: a1 :: a2 :: a3 :: a4 :: a5 :: some (eI z) :: r) (eI z :: st) h o) : EvO E M d cv pc (a0 :: a1 :: a2 :: a3 :: a4 :: a5 :: some (eI z) :: r) st h o := by
  subst hn
  exact ev_lift (fun hS hL w => lv_iload hS.1 hS.2.1 hd (hL.2.2 6 (eI z) rfl).1 w) k
theorem ev_aload6 (n : Nat) {a0 a1 a2 a3 a4 a5 : Option Value} {r : List (Option Value)} {q : Option Nat} (hd : decode (mB M) pc = .ok (.aload 6, 2)) (hn : n = pc + 2) (k : EvO E M d cv n (a0 :: a1 :: a2 :: a3 :: a4 :: a5 :: some (va_rf q) :: r) (va_rf q :: st) h o) : EvO E M d cv pc (a0 :: a1 :: a2 :: a3 :: a4 :: a5 :: some (va_rf q) :: r) st h o := by
  subst hn
  refine ev_lift (fun hS hL w => ?_) k
  have hl := (hL.2.2 6 (va_rf q) rfl).1
  cases q with
  | none => exact lv_aloadN hS.1 hS.2.1 hd hl w
  | some a => exact lv_aload hS.1 hS.2.1 hd hl w
theorem ev_istore6 (n : Nat) {a0 a1 a2 a3 a4 a5 : Option Value} {a6 : Option Value} {r : List (Option Value)} {z : Int} (hd : decode (mB M) pc = .ok (.istore 6, 2)) (hi : 6 < mL M) (hn : n = pc + 2) (k : EvO E M d cv n (a0 :: a1 :: a2 :: a3 :: a4 :: a5 :: some (eI z) :: r) st h o) : EvO E M d cv pc (a0 :: a1 :: a2 :: a3 :: a4 :: a5 :: a6 :: r) (eI z :: st) h o := by
  subst hn
  exact ev_liftL (fun hS hL w => lv_istore hS.1 hS.2.1 hd hL.has hi rfl (fun ls' h' => w ls' (hL.of h' rfl))) k
theorem ev_astore6 (n : Nat) {a0 a1 a2 a3 a4 a5 : Option Value} {a6 : Option Value} {r : List (Option Value)} {q : Option Nat} (hd : decode (mB M) pc = .ok (.astore 6, 2)) (hi : 6 < mL M) (hn : n = pc + 2) (k : EvO E M d cv n (a0 :: a1 :: a2 :: a3 :: a4 :: a5 :: some (va_rf q) :: r) st h o) : EvO E M d cv pc (a0 :: a1 :: a2 :: a3 :: a4 :: a5 :: a6 :: r) (va_rf q :: st) h o := by
  subst hn
  cases q with
  | none => exact ev_liftL (fun hS hL w => lv_astoreN hS.1 hS.2.1 hd hL.has hi rfl (fun ls' h' => w ls' (hL.of h' rfl))) k
  | some a => exact ev_liftL (fun hS hL w => lv_astore hS.1 hS.2.1 hd hL.has hi rfl (fun ls' h' => w ls' (hL.of h' rfl))) k
theorem ev_iinc6 (n : Nat) {a0 a1 a2 a3 a4 a5 : Option Value} {r : List (Option Value)} {z y : Int} (hd : decode (mB M) pc = .ok (.iinc 6 y, 3)) (hi : 6 < mL M) (hn : n = pc + 3) (k : EvO E M d cv n (a0 :: a1 :: a2 :: a3 :: a4 :: a5 :: some (eI (z + y)) :: r) st h o) : EvO E M d cv pc (a0 :: a1 :: a2 :: a3 :: a4 :: a5 :: some (eI z) :: r) st h o := by
  subst hn
  refine ev_liftL (fun hS hL w => ?_) k
  obtain ⟨k9, hk9⟩ := List.getElem?_of_mem (ev_al_mem.mpr (show (a0 :: a1 :: a2 :: a3 :: a4 :: a5 :: some (eI z) :: r)[6]? = some (some (eI z)) from rfl))
  exact lv_iinc hS.1 hS.2.1 hd hL.has hk9 (eI_add z y) hi rfl (fun ls' h' => w ls' (hL.of h' rfl))
theorem ev_iload7 (n : Nat) {a0 a1 a2 a3 a4 a5 a6 : Option Value} {r : List (Option Value)} {z : Int} (hd : decode (mB M) pc = .ok (.iload 7, 2)) (hn : n = pc + 2) (k : EvO E M d cv n (a0 :: a1 :: a2 :: a3 :: a4 :: a5 :: a6 :: some (eI z) :: r) (eI z :: st) h o) : EvO E M d cv pc (a0 :: a1 :: a2 :: a3 :: a4 :: a5 :: a6 :: some (eI z) :: r) st h o := by
  subst hn
  exact ev_lift (fun hS hL w => lv_iload hS.1 hS.2.1 hd (hL.2.2 7 (eI z) rfl).1 w) k
theorem ev_aload7 (n : Nat) {a0 a1 a2 a3 a4 a5 a6 : Option Value} {r : List (Option Value)} {q : Option Nat} (hd : decode (mB M) pc = .ok (.aload 7, 2)) (hn : n = pc + 2) (k : EvO E M d cv n (a0 :: a1 :: a2 :: a3 :: a4 :: a5 :: a6 :: some (va_rf q) :: r) (va_rf q :: st) h o) : EvO E M d cv pc (a0 :: a1 :: a2 :: a3 :: a4 :: a5 :: a6 :: some (va_rf q) :: r) st h o := by
  subst hn
  refine ev_lift (fun hS hL w => ?_) k
  have hl := (hL.2.2 7 (va_rf q) rfl).1
  cases q with
  | none => exact lv_aloadN hS.1 hS.2.1 hd hl w
  | some a => exact lv_aload hS.1 hS.2.1 hd hl w
theorem ev_istore7 (n : Nat) {a0 a1 a2 a3 a4 a5 a6 : Option Value} {a7 : Option Value} {r : List (Option Value)} {z : Int} (hd : decode (mB M) pc = .ok (.istore 7, 2)) (hi : 7 < mL M) (hn : n = pc + 2) (k : EvO E M d cv n (a0 :: a1 :: a2 :: a3 :: a4 :: a5 :: a6 :: some (eI z) :: r) st h o) : EvO E M d cv pc (a0 :: a1 :: a2 :: a3 :: a4 :: a5 :: a6 :: a7 :: r) (eI z :: st) h o := by
  subst hn
  exact ev_liftL (fun hS hL w => lv_istore hS.1 hS.2.1 hd hL.has hi rfl (fun ls' h' => w ls' (hL.of h' rfl))) k
theorem ev_astore7 (n : Nat) {a0 a1 a2 a3 a4 a5 a6 : Option Value} {a7 : Option Value} {r : List (Option Value)} {q : Option Nat} (hd : decode (mB M) pc = .ok (.astore 7, 2)) (hi : 7 < mL M) (hn : n = pc + 2) (k : EvO E M d cv n (a0 :: a1 :: a2 :: a3 :: a4 :: a5 :: a6 :: some (va_rf q) :: r) st h o) : EvO E M d cv pc (a0 :: a1 :: a2 :: a3 :: a4 :: a5 :: a6 :: a7 :: r) (va_rf q :: st) h o := by
  subst hn
  cases q with
  | none => exact ev_liftL (fun hS hL w => lv_astoreN hS.1 hS.2.1 hd hL.has hi rfl (fun ls' h' => w ls' (hL.of h' rfl))) k
  | some a => exact ev_liftL (fun hS hL w => lv_astore hS.1 hS.2.1 hd hL.has hi rfl (fun ls' h' => w ls' (hL.of h' rfl))) k
theorem ev_iinc7 (n : Nat) {a0 a1 a2 a3 a4 a5 a6 : Option Value} {r : List (Option Value)} {z y : Int} (hd : decode (mB M) pc = .ok (.iinc 7 y, 3)) (hi : 7 < mL M) (hn : n = pc + 3) (k : EvO E M d cv n (a0 :: a1 :: a2 :: a3 :: a4 :: a5 :: a6 :: some (eI (z + y)) :: r) st h o) : EvO E M d cv pc (a0 :: a1 :: a2 :: a3 :: a4 :: a5 :: a6 :: some (eI z) :: r) st h o := by
  subst hn
  refine ev_liftL (fun hS hL w => ?_) k
  obtain ⟨k9, hk9⟩ := List.getElem?_of_mem (ev_al_mem.mpr (show (a0 :: a1 :: a2 :: a3 :: a4 :: a5 :: a6 :: some (eI z) :: r)[7]? = some (some (eI z)) from rfl))
  exact lv_iinc hS.1 hS.2.1 hd hL.has hk9 (eI_add z y) hi rfl (fun ls' h' => w ls' (hL.of h' rfl))
theorem ev_iload8 (n : Nat) {a0 a1 a2 a3 a4 a5 a6 a7 : Option Value} {r : List (Option Value)} {z : Int} (hd : decode (mB M) pc = .ok (.iload 8, 2)) (hn : n = pc + 2) (k : EvO E M d cv n (a0 :: a1 :: a2 :: a3 :: a4 :: a5 :: a6 :: a7 :: some (eI z) :: r) (eI z :: st) h o) : EvO E M d cv pc (a0 :: a1 :: a2 :: a3 :: a4 :: a5 :: a6 :: a7 :: some (eI z) :: r) st h o := by
  subst hn
  exact ev_lift (fun hS hL w => lv_iload hS.1 hS.2.1 hd (hL.2.2 8 (eI z) rfl).1 w) k
theorem ev_aload8 (n : Nat) {a0 a1 a2 a3 a4 a5 a6 a7 : Option Value} {r : List (Option Value)} {q : Option Nat} (hd : decode (mB M) pc = .ok (.aload 8, 2)) (hn : n = pc + 2) (k : EvO E M d cv n (a0 :: a1 :: a2 :: a3 :: a4 :: a5 :: a6 :: a7 :: some (va_rf q) :: r) (va_rf q :: st) h o) : EvO E M d cv pc (a0 :: a1 :: a2 :: a3 :: a4 :: a5 :: a6 :: a7 :: some (va_rf q) :: r) st h o := by
  subst hn
  refine ev_lift (fun hS hL w => ?_) k
  have hl := (hL.2.2 8 (va_rf q) rfl).1
  cases q with
  | none => exact lv_aloadN hS.1 hS.2.1 hd hl w
  | some a => exact lv_aload hS.1 hS.2.1 hd hl w
theorem ev_istore8 (n : Nat) {a0 a1 a2 a3 a4 a5 a6 a7 : Option Value} {a8 : Option Value} {r : List (Option Value)} {z : Int} (hd : decode (mB M) pc = .ok (.istore 8, 2)) (hi : 8 < mL M) (hn : n = pc + 2) (k : EvO E M d cv n (a0 :: a1 :: a2 :: a3 :: a4 :: a5 :: a6 :: a7 :: some (eI z) :: r) st h o) : EvO E M d cv pc (a0 :: a1 :: a2 :: a3 :: a4 :: a5 :: a6 :: a7 :: a8 :: r) (eI z :: st) h o := by
  subst hn
  exact ev_liftL (fun hS hL w => lv_istore hS.1 hS.2.1 hd hL.has hi rfl (fun ls' h' => w ls' (hL.of h' rfl))) k
theorem ev_astore8 (n : Nat) {a0 a1 a2 a3 a4 a5 a6 a7 : Option Value} {a8 : Option Value} {r : List (Option Value)} {q : Option Nat} (hd : decode (mB M) pc = .ok (.astore 8, 2)) (hi : 8 < mL M) (hn : n = pc + 2) (k : EvO E M d cv n (a0 :: a1 :: a2 :: a3 :: a4 :: a5 :: a6 :: a7 :: some (va_rf q) :: r) st h o) : EvO E M d cv pc (a0 :: a1 :: a2 :: a3 :: a4 :: a5 :: a6 :: a7 :: a8 :: r) (va_rf q :: st) h o := by
  subst hn
  cases q with
  | none => exact ev_liftL (fun hS hL w => lv_astoreN hS.1 hS.2.1 hd hL.has hi rfl (fun ls' h' => w ls' (hL.of h' rfl))) k
  | some a => exact ev_liftL (fun hS hL w => lv_astore hS.1 hS.2.1 hd hL.has hi rfl (fun ls' h' => w ls' (hL.of h' rfl))) k
theorem ev_iinc8 (n : Nat) {a0 a1 a2 a3 a4 a5 a6 a7 : Option Value} {r : List (Option Value)} {z y : Int} (hd : decode (mB M) pc = .ok (.iinc 8 y, 3)) (hi : 8 < mL M) (hn : n = pc + 3) (k : EvO E M d cv n (a0 :: a1 :: a2 :: a3 :: a4 :: a5 :: a6 :: a7 :: some (eI (z + y)) :: r) st h o) : EvO E M d cv pc (a0 :: a1 :: a2 :: a3 :: a4 :: a5 :: a6 :: a7 :: some (eI z) :: r) st h o := by
  subst hn
  refine ev_liftL (fun hS hL w => ?_) k
  obtain ⟨k9, hk9⟩ := List.getElem?_of_mem (ev_al_mem.mpr (show (a0 :: a1 :: a2 :: a3 :: a4 :: a5 :: a6 :: a7 :: some (eI z) :: r)[8]? = some (some (eI z)) from rfl))
  exact lv_iinc hS.1 hS.2.1 hd hL.has hk9 (eI_add z y) hi rfl (fun ls' h' => w ls' (hL.of h' rfl))
theorem ev_iload9 (n : Nat) {a0 a1 a2 a3 a4 a5 a6 a7 a8 : Option Value} {r : List (Option Value)} {z : Int} (hd : decode (mB M) pc = .ok (.iload 9, 2)) (hn : n = pc + 2) (k : EvO E M d cv n (a0 :: a1 :: a2 :: a3 :: a4 :: a5 :: a6 :: a7 :: a8 :: some (eI z) :: r) (eI z :: st) h o) : EvO E M d cv pc (a0 :: a1 :: a2 :: a3 :: a4 :: a5 :: a6 :: a7 :: a8 :: some (eI z) :: r) st h o := by
  subst hn
  exact ev_lift (fun hS hL w => lv_iload hS.1 hS.2.1 hd (hL.2.2 9 (eI z) rfl).1 w) k
theorem ev_aload9 (n : Nat) {a0 a1 a2 a3 a4 a5 a6 a7 a8 : Option Value} {r : List (Option Value)} {q : Option Nat} (hd : decode (mB M) pc = .ok (.aload 9, 2)) (hn : n = pc + 2) (k : EvO E M d cv n (a0 :: a1 :: a2 :: a3 :: a4 :: a5 :: a6 :: a7 :: a8 :: some (va_rf q) :: r) (va_rf q :: st) h o) : EvO E M d cv pc (a0 :: a1 :: a2 :: a3 :: a4 :: a5 :: a6 :: a7 :: a8 :: some (va_rf q) :: r) st h o := by
  subst hn
  refine ev_lift (fun hS hL w => ?_) k
  have hl := (hL.2.2 9 (va_rf q) rfl).1
  cases q with
  | none => exact lv_aloadN hS.1 hS.2.1 hd hl w
  | some a => exact lv_aload hS.1 hS.2.1 hd hl w
theorem ev_istore9 (n : Nat) {a0 a1 a2 a3 a4 a5 a6 a7 a8 : Option Value} {a9 : Option Value} {r : List (Option Value)} {z : Int} (hd : decode (mB M) pc = .ok (.istore 9, 2)) (hi : 9 < mL M) (hn : n = pc + 2) (k : EvO E M d cv n (a0 :: a1 :: a2 :: a3 :: a4 :: a5 :: a6 :: a7 :: a8 :: some (eI z) :: r) st h o) : EvO E M d cv pc (a0 :: a1 :: a2 :: a3 :: a4 :: a5 :: a6 :: a7 :: a8 :: a9 :: r) (eI z :: st) h o := by
  subst hn
  exact ev_liftL (fun hS hL w => lv_istore hS.1 hS.2.1 hd hL.has hi rfl (fun ls' h' => w ls' (hL.of h' rfl))) k
theorem ev_astore9 (n : Nat) {a0 a1 a2 a3 a4 a5 a6 a7 a8 : Option Value} {a9 : Option Value} {r : List (Option Value)} {q : Option Nat} (hd : decode (mB M) pc = .ok (.astore 9, 2)) (hi : 9 < mL M) (hn : n = pc + 2) (k : EvO E M d cv n (a0 :: a1 :: a2 :: a3 :: a4 :: a5 :: a6 :: a7 :: a8 :: some (va_rf q) :: r) st h o) : EvO E M d cv pc (a0 :: a1 :: a2 :: a3 :: a4 :: a5 :: a6 :: a7 :: a8 :: a9 :: r) (va_rf q :: st) h o := by
  subst hn
  cases q with
  | none => exact ev_liftL (fun hS hL w => lv_astoreN hS.1 hS.2.1 hd hL.has hi rfl (fun ls' h' => w ls' (hL.of h' rfl))) k
  | some a => exact ev_liftL (fun hS hL w => lv_astore hS.1 hS.2.1 hd hL.has hi rfl (fun ls' h' => w ls' (hL.of h' rfl))) k
theorem ev_iinc9 (n : Nat) {a0 a1 a2 a3 a4 a5 a6 a7 a8 : Option Value} {r : List (Option Value)} {z y : Int} (hd : decode (mB M) pc = .ok (.iinc 9 y, 3)) (hi : 9 < mL M) (hn : n = pc + 3) (k : EvO E M d cv n (a0 :: a1 :: a2 :: a3 :: a4 :: a5 :: a6 :: a7 :: a8 :: some (eI (z + y)) :: r) st h o) : EvO E M d cv pc (a0 :: a1 :: a2 :: a3 :: a4 :: a5 :: a6 :: a7 :: a8 :: some (eI z) :: r) st h o := by
  subst hn
  refine ev_liftL (fun hS hL w => ?_) k
  obtain ⟨k9, hk9⟩ := List.getElem?_of_mem (ev_al_mem.mpr (show (a0 :: a1 :: a2 :: a3 :: a4 :: a5 :: a6 :: a7 :: a8 :: some (eI z) :: r)[9]? = some (some (eI z)) from rfl))
  exact lv_iinc hS.1 hS.2.1 hd hL.has hk9 (eI_add z y) hi rfl (fun ls' h' => w ls' (hL.of h' rfl))
theorem ev_iload10 (n : Nat) {a0 a1 a2 a3 a4 a5 a6 a7 a8 a9 : Option Value} {r : List (Option Value)} {z : Int} (hd : decode (mB M) pc = .ok (.iload 10, 2)) (hn : n = pc + 2) (k : EvO E M d cv n (a0 :: a1 :: a2 :: a3 :: a4 :: a5 :: a6 :: a7 :: a8 :: a9 :: some (eI z) :: r) (eI z :: st) h o) : EvO E M d cv pc (a0 :: a1 :: a2 :: a3 :: a4 :: a5 :: a6 :: a7 :: a8 :: a9 :: some (eI z) :: r) st h o := by
  subst hn
  exact ev_lift (fun hS hL w => lv_iload hS.1 hS.2.1 hd (hL.2.2 10 (eI z) rfl).1 w) k
theorem ev_aload10 (n : Nat) {a0 a1 a2 a3 a4 a5 a6 a7 a8 a9 : Option Value} {r : List (Option Value)} {q : Option Nat} (hd : decode (mB M) pc = .ok (.aload 10, 2)) (hn : n = pc + 2) (k : EvO E M d cv n (a0 :: a1 :: a2 :: a3 :: a4 :: a5 :: a6 :: a7 :: a8 :: a9 :: some (va_rf q) :: r) (va_rf q :: st) h o) : EvO E M d cv pc (a0 :: a1 :: a2 :: a3 :: a4 :: a5 :: a6 :: a7 :: a8 :: a9 :: some (va_rf q) :: r) st h o := by
  subst hn
  refine ev_lift (fun hS hL w => ?_) k
  have hl := (hL.2.2 10 (va_rf q) rfl).1
  cases q with
  | none => exact lv_aloadN hS.1 hS.2.1 hd hl w
  | some a => exact lv_aload hS.1 hS.2.1 hd hl w
theorem ev_istore10 (n : Nat) {a0 a1 a2 a3 a4 a5 a6 a7 a8 a9 : Option Value} {a10 : Option Value} {r : List (Option Value)} {z : Int} (hd : decode (mB M) pc = .ok (.istore 10, 2)) (hi : 10 < mL M) (hn : n = pc + 2) (k : EvO E M d cv n (a0 :: a1 :: a2 :: a3 :: a4 :: a5 :: a6 :: a7 :: a8 :: a9 :: some (eI z) :: r) st h o) : EvO E M d cv pc (a0 :: a1 :: a2 :: a3 :: a4 :: a5 :: a6 :: a7 :: a8 :: a9 :: a10 :: r) (eI z :: st) h o := by
  subst hn
  exact ev_liftL (fun hS hL w => lv_istore hS.1 hS.2.1 hd hL.has hi rfl (fun ls' h' => w ls' (hL.of h' rfl))) k
theorem ev_astore10 (n : Nat) {a0 a1 a2 a3 a4 a5 a6 a7 a8 a9 : Option Value} {a10 : Option Value} {r : List (Option Value)} {q : Option Nat} (hd : decode (mB M) pc = .ok (.astore 10, 2)) (hi : 10 < mL M) (hn : n = pc + 2) (k : EvO E M d cv n (a0 :: a1 :: a2 :: a3 :: a4 :: a5 :: a6 :: a7 :: a8 :: a9 :: some (va_rf q) :: r) st h o) : EvO E M d cv pc (a0 :: a1 :: a2 :: a3 :: a4 :: a5 :: a6 :: a7 :: a8 :: a9 :: a10 :: r) (va_rf q :: st) h o := by
  subst hn
  cases q with
  | none => exact ev_liftL (fun hS hL w => lv_astoreN hS.1 hS.2.1 hd hL.has hi rfl (fun ls' h' => w ls' (hL.of h' rfl))) k
  | some a => exact ev_liftL (fun hS hL w => lv_astore hS.1 hS.2.1 hd hL.has hi rfl (fun ls' h' => w ls' (hL.of h' rfl))) k
theorem ev_iinc10 (n : Nat) {a0 a1 a2 a3 a4 a5 a6 a7 a8 a9 : Option Value} {r : List (Option Value)} {z y : Int} (hd : decode (mB M) pc = .ok (.iinc 10 y, 3)) (hi : 10 < mL M) (hn : n = pc + 3) (k : EvO E M d cv n (a0 :: a1 :: a2 :: a3 :: a4 :: a5 :: a6 :: a7 :: a8 :: a9 :: some (eI (z + y)) :: r) st h o) : EvO E M d cv pc (a0 :: a1 :: a2 :: a3 :: a4 :: a5 :: a6 :: a7 :: a8 :: a9 :: some (eI z) :: r) st h o := by
  subst hn
  refine ev_liftL (fun hS hL w => ?_) k
  obtain ⟨k9, hk9⟩ := List.getElem?_of_mem (ev_al_mem.mpr (show (a0 :: a1 :: a2 :: a3 :: a4 :: a5 :: a6 :: a7 :: a8 :: a9 :: some (eI z) :: r)[10]? = some (some (eI z)) from rfl))
  exact lv_iinc hS.1 hS.2.1 hd hL.has hk9 (eI_add z y) hi rfl (fun ls' h' => w ls' (hL.of h' rfl))
theorem ev_iload11 (n : Nat) {a0 a1 a2 a3 a4 a5 a6 a7 a8 a9 a10 : Option Value} {r : List (Option Value)} {z : Int} (hd : decode (mB M) pc = .ok (.iload 11, 2)) (hn : n = pc + 2) (k : EvO E M d cv n (a0 :: a1 :: a2 :: a3 :: a4 :: a5 :: a6 :: a7 :: a8 :: a9 :: a10 :: some (eI z) :: r) (eI z :: st) h o) : EvO E M d cv pc (a0 :: a1 :: a2 :: a3 :: a4 :: a5 :: a6 :: a7 :: a8 :: a9 :: a10 :: some (eI z) :: r) st h o := by
  subst hn
  exact ev_lift (fun hS hL w => lv_iload hS.1 hS.2.1 hd (hL.2.2 11 (eI z) rfl).1 w) k
theorem ev_aload11 (n : Nat) {a0 a1 a2 a3 a4 a5 a6 a7 a8 a9 a10 : Option Value} {r : List (Option Value)} {q : Option Nat} (hd : decode (mB M) pc = .ok (.aload 11, 2)) (hn : n = pc + 2) (k : EvO E M d cv n (a0 :: a1 :: a2 :: a3 :: a4 :: a5 :: a6 :: a7 :: a8 :: a9 :: a10 :: some (va_rf q) :: r) (va_rf q :: st) h o) : EvO E M d cv pc (a0 :: a1 :: a2 :: a3 :: a4 :: a5 :: a6 :: a7 :: a8 :: a9 :: a10 :: some (va_rf q) :: r) st h o := by
  subst hn
  refine ev_lift (fun hS hL w => ?_) k
  have hl := (hL.2.2 11 (va_rf q) rfl).1
  cases q with
  | none => exact lv_aloadN hS.1 hS.2.1 hd hl w
  | some a => exact lv_aload hS.1 hS.2.1 hd hl w
theorem ev_istore11 (n : Nat) {a0 a1 a2 a3 a4 a5 a6 a7 a8 a9 a10 : Option Value} {a11 : Option Value} {r : List (Option Value)} {z : Int} (hd : decode (mB M) pc = .ok (.istore 11, 2)) (hi : 11 < mL M) (hn : n = pc + 2) (k : EvO E M d cv n (a0 :: a1 :: a2 :: a3 :: a4 :: a5 :: a6 :: a7 :: a8 :: a9 :: a10 :: some (eI z) :: r) st h o) : EvO E M d cv pc (a0 :: a1 :: a2 :: a3 :: a4 :: a5 :: a6 :: a7 :: a8 :: a9 :: a10 :: a11 :: r) (eI z :: st) h o := by
  subst hn
  exact ev_liftL (fun hS hL w => lv_istore hS.1 hS.2.1 hd hL.has hi rfl (fun ls' h' => w ls' (hL.of h' rfl))) k
theorem ev_astore11 (n : Nat) {a0 a1 a2 a3 a4 a5 a6 a7 a8 a9 a10 : Option Value} {a11 : Option Value} {r : List (Option Value)} {q : Option Nat} (hd : decode (mB M) pc = .ok (.astore 11, 2)) (hi : 11 < mL M) (hn : n = pc + 2) (k : EvO E M d cv n (a0 :: a1 :: a2 :: a3 :: a4 :: a5 :: a6 :: a7 :: a8 :: a9 :: a10 :: some (va_rf q) :: r) st h o) : EvO E M d cv pc (a0 :: a1 :: a2 :: a3 :: a4 :: a5 :: a6 :: a7 :: a8 :: a9 :: a10 :: a11 :: r) (va_rf q :: st) h o := by
  subst hn
  cases q with
  | none => exact ev_liftL (fun hS hL w => lv_astoreN hS.1 hS.2.1 hd hL.has hi rfl (fun ls' h' => w ls' (hL.of h' rfl))) k
  | some a => exact ev_liftL (fun hS hL w => lv_astore hS.1 hS.2.1 hd hL.has hi rfl (fun ls' h' => w ls' (hL.of h' rfl))) k
theorem ev_iinc11 (n : Nat) {a0 a1 a2 a3 a4 a5 a6 a7 a8 a9 a10 : Option Value} {r : List (Option Value)} {z y : Int} (hd : decode (mB M) pc = .ok (.iinc 11 y, 3)) (hi : 11 < mL M) (hn : n = pc + 3) (k : EvO E M d cv n (a0 :: a1 :: a2 :: a3 :: a4 :: a5 :: a6 :: a7 :: a8 :: a9 :: a10 :: some (eI (z + y)) :: r) st h o) : EvO E M d cv pc (a0 :: a1 :: a2 :: a3 :: a4 :: a5 :: a6 :: a7 :: a8 :: a9 :: a10 :: some (eI z) :: r) st h o := by
  subst hn
  refine ev_liftL (fun hS hL w => ?_) k
  obtain ⟨k9, hk9⟩ := List.getElem?_of_mem (ev_al_mem.mpr (show (a0 :: a1 :: a2 :: a3 :: a4 :: a5 :: a6 :: a7 :: a8 :: a9 :: a10 :: some (eI z) :: r)[11]? = some (some (eI z)) from rfl))
  exact lv_iinc hS.1 hS.2.1 hd hL.has hk9 (eI_add z y) hi rfl (fun ls' h' => w ls' (hL.of h' rfl))
theorem ev_iload12 (n : Nat) {a0 a1 a2 a3 a4 a5 a6 a7 a8 a9 a10 a11 : Option Value} {r : List (Option Value)} {z : Int} (hd : decode (mB M) pc = .ok (.iload 12, 2)) (hn : n = pc + 2) (k : EvO E M d cv n (a0 :: a1 :: a2 :: a3 :: a4 :: a5 :: a6 :: a7 :: a8 :: a9 :: a10 :: a11 :: some (eI z) :: r) (eI z :: st) h o) : EvO E M d cv pc (a0 :: a1 :: a2 :: a3 :: a4 :: a5 :: a6 :: a7 :: a8 :: a9 :: a10 :: a11 :: some (eI z) :: r) st h o := by
  subst hn
  exact ev_lift (fun hS hL w => lv_iload hS.1 hS.2.1 hd (hL.2.2 12 (eI z) rfl).1 w) k
theorem ev_aload12 (n : Nat) {a0 a1 a2 a3 a4 a5 a6 a7 a8 a9 a10 a11 : Option Value} {r : List (Option Value)} {q : Option Nat} (hd : decode (mB M) pc = .ok (.aload 12, 2)) (hn : n = pc + 2) (k : EvO E M d cv n (a0 :: a1 :: a2 :: a3 :: a4 :: a5 :: a6 :: a7 :: a8 :: a9 :: a10 :: a11 :: some (va_rf q) :: r) (va_rf q :: st) h o) : EvO E M d cv pc (a0 :: a1 :: a2 :: a3 :: a4 :: a5 :: a6 :: a7 :: a8 :: a9 :: a10 :: a11 :: some (va_rf q) :: r) st h o := by
  subst hn
  refine ev_lift (fun hS hL w => ?_) k
  have hl := (hL.2.2 12 (va_rf q) rfl).1
  cases q with
  | none => exact lv_aloadN hS.1 hS.2.1 hd hl w
  | some a => exact lv_aload hS.1 hS.2.1 hd hl w
theorem ev_istore12 (n : Nat) {a0 a1 a2 a3 a4 a5 a6 a7 a8 a9 a10 a11 : Option Value} {a12 : Option Value} {r : List (Option Value)} {z : Int} (hd : decode (mB M) pc = .ok (.istore 12, 2)) (hi : 12 < mL M) (hn : n = pc + 2) (k : EvO E M d cv n (a0 :: a1 :: a2 :: a3 :: a4 :: a5 :: a6 :: a7 :: a8 :: a9 :: a10 :: a11 :: some (eI z) :: r) st h o) : EvO E M d cv pc (a0 :: a1 :: a2 :: a3 :: a4 :: a5 :: a6 :: a7 :: a8 :: a9 :: a10 :: a11 :: a12 :: r) (eI z :: st) h o := by
  subst hn
  exact ev_liftL (fun hS hL w => lv_istore hS.1 hS.2.1 hd hL.has hi rfl (fun ls' h' => w ls' (hL.of h' rfl))) k
theorem ev_astore12 (n : Nat) {a0 a1 a2 a3 a4 a5 a6 a7 a8 a9 a10 a11 : Option Value} {a12 : Option Value} {r : List (Option Value)} {q : Option Nat} (hd : decode (mB M) pc = .ok (.astore 12, 2)) (hi : 12 < mL M) (hn : n = pc + 2) (k : EvO E M d cv n (a0 :: a1 :: a2 :: a3 :: a4 :: a5 :: a6 :: a7 :: a8 :: a9 :: a10 :: a11 :: some (va_rf q) :: r) st h o) : EvO E M d cv pc (a0 :: a1 :: a2 :: a3 :: a4 :: a5 :: a6 :: a7 :: a8 :: a9 :: a10 :: a11 :: a12 :: r) (va_rf q :: st) h o := by
  subst hn
  cases q with
  | none => exact ev_liftL (fun hS hL w => lv_astoreN hS.1 hS.2.1 hd hL.has hi rfl (fun ls' h' => w ls' (hL.of h' rfl))) k
  | some a => exact ev_liftL (fun hS hL w => lv_astore hS.1 hS.2.1 hd hL.has hi rfl (fun ls' h' => w ls' (hL.of h' rfl))) k
theorem ev_iinc12 (n : Nat) {a0 a1 a2 a3 a4 a5 a6 a7 a8 a9 a10 a11 : Option Value} {r : List (Option Value)} {z y : Int} (hd : decode (mB M) pc = .ok (.iinc 12 y, 3)) (hi : 12 < mL M) (hn : n = pc + 3) (k : EvO E M d cv n (a0 :: a1 :: a2 :: a3 :: a4 :: a5 :: a6 :: a7 :: a8 :: a9 :: a10 :: a11 :: some (eI (z + y)) :: r) st h o) : EvO E M d cv pc (a0 :: a1 :: a2 :: a3 :: a4 :: a5 :: a6 :: a7 :: a8 :: a9 :: a10 :: a11 :: some (eI z) :: r) st h o := by
  subst hn
  refine ev_liftL (fun hS hL w => ?_) k
  obtain ⟨k9, hk9⟩ := List.getElem?_of_mem (ev_al_mem.mpr (show (a0 :: a1 :: a2 :: a3 :: a4 :: a5 :: a6 :: a7 :: a8 :: a9 :: a10 :: a11 :: some (eI z) :: r)[12]? = some (some (eI z)) from rfl))
  exact lv_iinc hS.1 hS.2.1 hd hL.has hk9 (eI_add z y) hi rfl (fun ls' h' => w ls' (hL.of h' rfl))
theorem ev_iload13 (n : Nat) {a0 a1 a2 a3 a4 a5 a6 a7 a8 a9 a10 a11 a12 : Option Value} {r : List (Option Value)} {z : Int} (hd : decode (mB M) pc = .ok (.iload 13, 2)) (hn : n = pc + 2) (k : EvO E M d cv n (a0 :: a1 :: a2 :: a3 :: a4 :: a5 :: a6 :: a7 :: a8 :: a9 :: a10 :: a11 :: a12 :: some (eI z) :: r) (eI z :: st) h o) : EvO E M d cv pc (a0 :: a1 :: a2 :: a3 :: a4 :: a5 :: a6 :: a7 :: a8 :: a9 :: a10 :: a11 :: a12 :: some (eI z) :: r) st h o := by
  subst hn
  exact ev_lift (fun hS hL w => lv_iload hS.1 hS.2.1 hd (hL.2.2 13 (eI z) rfl).1 w) k
theorem ev_aload13 (n : Nat) {a0 a1 a2 a3 a4 a5 a6 a7 a8 a9 a10 a11 a12 : Option Value} {r : List (Option Value)} {q : Option Nat} (hd : decode (mB M) pc = .ok (.aload 13, 2)) (hn : n = pc + 2) (k : EvO E M d cv n (a0 :: a1 :: a2 :: a3 :: a4 :: a5 :: a6 :: a7 :: a8 :: a9 :: a10 :: a11 :: a12 :: some (va_rf q) :: r) (va_rf q :: st) h o) : EvO E M d cv pc (a0 :: a1 :: a2 :: a3 :: a4 :: a5 :: a6 :: a7 :: a8 :: a9 :: a10 :: a11 :: a12 :: some (va_rf q) :: r) st h o := by
  subst hn
  refine ev_lift (fun hS hL w => ?_) k
  have hl := (hL.2.2 13 (va_rf q) rfl).1
  cases q with
  | none => exact lv_aloadN hS.1 hS.2.1 hd hl w
  | some a => exact lv_aload hS.1 hS.2.1 hd hl w
theorem ev_istore13 (n : Nat) {a0 a1 a2 a3 a4 a5 a6 a7 a8 a9 a10 a11 a12 : Option Value} {a13 : Option Value} {r : List (Option Value)} {z : Int} (hd : decode (mB M) pc = .ok (.istore 13, 2)) (hi : 13 < mL M) (hn : n = pc + 2) (k : EvO E M d cv n (a0 :: a1 :: a2 :: a3 :: a4 :: a5 :: a6 :: a7 :: a8 :: a9 :: a10 :: a11 :: a12 :: some (eI z) :: r) st h o) : EvO E M d cv pc (a0 :: a1 :: a2 :: a3 :: a4 :: a5 :: a6 :: a7 :: a8 :: a9 :: a10 :: a11 :: a12 :: a13 :: r) (eI z :: st) h o := by
  subst hn
  exact ev_liftL (fun hS hL w => lv_istore hS.1 hS.2.1 hd hL.has hi rfl (fun ls' h' => w ls' (hL.of h' rfl))) k
theorem ev_astore13 (n : Nat) {a0 a1 a2 a3 a4 a5 a6 a7 a8 a9 a10 a11 a12 : Option Value} {a13 : Option Value} {r : List (Option Value)} {q : Option Nat} (hd : decode (mB M) pc = .ok (.astore 13, 2)) (hi : 13 < mL M) (hn : n = pc + 2) (k : EvO E M d cv n (a0 :: a1 :: a2 :: a3 :: a4 :: a5 :: a6 :: a7 :: a8 :: a9 :: a10 :: a11 :: a12 :: some (va_rf q) :: r) st h o) : EvO E M d cv pc (a0 :: a1 :: a2 :: a3 :: a4 :: a5 :: a6 :: a7 :: a8 :: a9 :: a10 :: a11 :: a12 :: a13 :: r) (va_rf q :: st) h o := by
  subst hn
  cases q with
  | none => exact ev_liftL (fun hS hL w => lv_astoreN hS.1 hS.2.1 hd hL.has hi rfl (fun ls' h' => w ls' (hL.of h' rfl))) k
  | some a => exact ev_liftL (fun hS hL w => lv_astore hS.1 hS.2.1 hd hL.has hi rfl (fun ls' h' => w ls' (hL.of h' rfl))) k
theorem ev_iinc13 (n : Nat) {a0 a1 a2 a3 a4 a5 a6 a7 a8 a9 a10 a11 a12 : Option Value} {r : List (Option Value)} {z y : Int} (hd : decode (mB M) pc = .ok (.iinc 13 y, 3)) (hi : 13 < mL M) (hn : n = pc + 3) (k : EvO E M d cv n (a0 :: a1 :: a2 :: a3 :: a4 :: a5 :: a6 :: a7 :: a8 :: a9 :: a10 :: a11 :: a12 :: some (eI (z + y)) :: r) st h o) : EvO E M d cv pc (a0 :: a1 :: a2 :: a3 :: a4 :: a5 :: a6 :: a7 :: a8 :: a9 :: a10 :: a11 :: a12 :: some (eI z) :: r) st h o := by
  subst hn
  refine ev_liftL (fun hS hL w => ?_) k
  obtain ⟨k9, hk9⟩ := List.getElem?_of_mem (ev_al_mem.mpr (show (a0 :: a1 :: a2 :: a3 :: a4 :: a5 :: a6 :: a7 :: a8 :: a9 :: a10 :: a11 :: a12 :: some (eI z) :: r)[13]? = some (some (eI z)) from rfl))
  exact lv_iinc hS.1 hS.2.1 hd hL.has hk9 (eI_add z y) hi rfl (fun ls' h' => w ls' (hL.of h' rfl))
theorem ev_iload14 (n : Nat) {a0 a1 a2 a3 a4 a5 a6 a7 a8 a9 a10 a11 a12 a13 : Option Value} {r : List (Option Value)} {z : Int} (hd : decode (mB M) pc = .ok (.iload 14, 2)) (hn : n = pc + 2) (k : EvO E M d cv n (a0 :: a1 :: a2 :: a3 :: a4 :: a5 :: a6 :: a7 :: a8 :: a9 :: a10 :: a11 :: a12 :: a13 :: some (eI z) :: r) (eI z :: st) h o) : EvO E M d cv pc (a0 :: a1 :: a2 :: a3 :: a4 :: a5 :: a6 :: a7 :: a8 :: a9 :: a10 :: a11 :: a12 :: a13 :: some (eI z) :: r) st h o := by
  subst hn
  exact ev_lift (fun hS hL w => lv_iload hS.1 hS.2.1 hd (hL.2.2 14 (eI z) rfl).1 w) k
theorem ev_aload14 (n : Nat) {a0 a1 a2 a3 a4 a5 a6 a7 a8 a9 a10 a11 a12 a13 : Option Value} {r : List (Option Value)} {q : Option Nat} (hd : decode (mB M) pc = .ok (.aload 14, 2)) (hn : n = pc + 2) (k : EvO E M d cv n (a0 :: a1 :: a2 :: a3 :: a4 :: a5 :: a6 :: a7 :: a8 :: a9 :: a10 :: a11 :: a12 :: a13 :: some (va_rf q) :: r) (va_rf q :: st) h o) : EvO E M d cv pc (a0 :: a1 :: a2 :: a3 :: a4 :: a5 :: a6 :: a7 :: a8 :: a9 :: a10 :: a11 :: a12 :: a13 :: some (va_rf q) :: r) st h o := by
  subst hn
  refine ev_lift (fun hS hL w => ?_) k
  have hl := (hL.2.2 14 (va_rf q) rfl).1
  cases q with
  | none => exact lv_aloadN hS.1 hS.2.1 hd hl w
  | some a => exact lv_aload hS.1 hS.2.1 hd hl w
theorem ev_istore14 (n : Nat) {a0 a1 a2 a3 a4 a5 a6 a7 a8 a9 a10 a11 a12 a13 : Option Value} {a14 : Option Value} {r : List (Option Value)} {z : Int} (hd : decode (mB M) pc = .ok (.istore 14, 2)) (hi : 14 < mL M) (hn : n = pc + 2) (k : EvO E M d cv n (a0 :: a1 :: a2 :: a3 :: a4 :: a5 :: a6 :: a7 :: a8 :: a9 :: a10 :: a11 :: a12 :: a13 :: some (eI z) :: r) st h o) : EvO E M d cv pc (a0 :: a1 :: a2 :: a3 :: a4 :: a5 :: a6 :: a7 :: a8 :: a9 :: a10 :: a11 :: a12 :: a13 :: a14 :: r) (eI z :: st) h o := by
  subst hn
  exact ev_liftL (fun hS hL w => lv_istore hS.1 hS.2.1 hd hL.has hi rfl (fun ls' h' => w ls' (hL.of h' rfl))) k
theorem ev_astore14 (n : Nat) {a0 a1 a2 a3 a4 a5 a6 a7 a8 a9 a10 a11 a12 a13 : Option Value} {a14 : Option Value} {r : List (Option Value)} {q : Option Nat} (hd : decode (mB M) pc = .ok (.astore 14, 2)) (hi : 14 < mL M) (hn : n = pc + 2) (k : EvO E M d cv n (a0 :: a1 :: a2 :: a3 :: a4 :: a5 :: a6 :: a7 :: a8 :: a9 :: a10 :: a11 :: a12 :: a13 :: some (va_rf q) :: r) st h o) : EvO E M d cv pc (a0 :: a1 :: a2 :: a3 :: a4 :: a5 :: a6 :: a7 :: a8 :: a9 :: a10 :: a11 :: a12 :: a13 :: a14 :: r) (va_rf q :: st) h o := by
  subst hn
  cases q with
  | none => exact ev_liftL (fun hS hL w => lv_astoreN hS.1 hS.2.1 hd hL.has hi rfl (fun ls' h' => w ls' (hL.of h' rfl))) k
  | some a => exact ev_liftL (fun hS hL w => lv_astore hS.1 hS.2.1 hd hL.has hi rfl (fun ls' h' => w ls' (hL.of h' rfl))) k
theorem ev_iinc14 (n : Nat) {a0 a1 a2 a3 a4 a5 a6 a7 a8 a9 a10 a11 a12 a13 : Option Value} {r : List (Option Value)} {z y : Int} (hd : decode (mB M) pc = .ok (.iinc 14 y, 3)) (hi : 14 < mL M) (hn : n = pc + 3) (k : EvO E M d cv n (a0 :: a1 :: a2 :: a3 :: a4 :: a5 :: a6 :: a7 :: a8 :: a9 :: a10 :: a11 :: a12 :: a13 :: some (eI (z + y)) :: r) st h o) : EvO E M d cv pc (a0 :: a1 :: a2 :: a3 :: a4 :: a5 :: a6 :: a7 :: a8 :: a9 :: a10 :: a11 :: a12 :: a13 :: some (eI z) :: r) st h o := by
  subst hn
  refine ev_liftL (fun hS hL w => ?_) k
  obtain ⟨k9, hk9⟩ := List.getElem?_of_mem (ev_al_mem.mpr (show (a0 :: a1 :: a2 :: a3 :: a4 :: a5 :: a6 :: a7 :: a8 :: a9 :: a10 :: a11 :: a12 :: a13 :: some (eI z) :: r)[14]? = some (some (eI z)) from rfl))
  exact lv_iinc hS.1 hS.2.1 hd hL.has hk9 (eI_add z y) hi rfl (fun ls' h' => w ls' (hL.of h' rfl))
theorem ev_if_eq (t n : Nat) {a : Int} {off : Int} {A B : Option α} (hd : decode (mB M) pc = .ok (.ifCond .eq off, 3)) (ht : (pc : Int) + off = (t : Int)) (hn : n = pc + 3) (kt : EvO E M d cv t lo st h A) (kn : EvO E M d cv n lo st h B) : EvO E M d cv pc lo (eI a :: st) h (eEq a 0 A B) := by
  subst hn
  unfold eEq
  split
  · rename_i he
    subst he
    exact ev_lift (fun hS _ w => lv_if_eq hS.1 hS.2.1 hd ht (fun _ => w) (fun q => absurd rfl q)) kt
  · rename_i he
    split
    · rename_i hok
      exact ev_lift (fun hS _ w => lv_if_eq hS.1 hS.2.1 hd ht (fun q => absurd (eI_inj hok.1 hok.2 q) he) (fun _ => w)) kn
    · exact ev_no
theorem ev_if_ne (t n : Nat) {a : Int} {off : Int} {A B : Option α} (hd : decode (mB M) pc = .ok (.ifCond .ne off, 3)) (ht : (pc : Int) + off = (t : Int)) (hn : n = pc + 3) (kt : EvO E M d cv t lo st h A) (kn : EvO E M d cv n lo st h B) : EvO E M d cv pc lo (eI a :: st) h (eEq a 0 B A) := by
  subst hn
  unfold eEq
  split
  · rename_i he
    subst he
    exact ev_lift (fun hS _ w => lv_if_ne hS.1 hS.2.1 hd ht (fun q => absurd rfl q) (fun _ => w)) kn
  · rename_i he
    split
    · rename_i hok
      exact ev_lift (fun hS _ w => lv_if_ne hS.1 hS.2.1 hd ht (fun _ => w) (fun q => absurd (eI_inj hok.1 hok.2 q) he)) kt
    · exact ev_no
theorem ev_if_lt (t n : Nat) {a : Int} {off : Int} {A B : Option α} (hd : decode (mB M) pc = .ok (.ifCond .lt off, 3)) (ht : (pc : Int) + off = (t : Int)) (hn : n = pc + 3) (kt : EvO E M d cv t lo st h A) (kn : EvO E M d cv n lo st h B) : EvO E M d cv pc lo (eI a :: st) h (eLt a 0 A B) := by
  subst hn
  unfold eLt
  split
  · rename_i hok
    have hiff := eI_lt hok.1 hok.2
    split
    · rename_i he
      exact ev_lift (fun hS _ w => lv_if_lt hS.1 hS.2.1 hd ht (fun _ => w) (fun q => absurd (hiff.mpr he) q)) kt
    · rename_i he
      exact ev_lift (fun hS _ w => lv_if_lt hS.1 hS.2.1 hd ht (fun q => absurd (hiff.mp q) he) (fun _ => w)) kn
  · exact ev_no
theorem ev_if_ge (t n : Nat) {a : Int} {off : Int} {A B : Option α} (hd : decode (mB M) pc = .ok (.ifCond .ge off, 3)) (ht : (pc : Int) + off = (t : Int)) (hn : n = pc + 3) (kt : EvO E M d cv t lo st h A) (kn : EvO E M d cv n lo st h B) : EvO E M d cv pc lo (eI a :: st) h (eLt a 0 B A) := by
  subst hn
  unfold eLt
  split
  · rename_i hok
    have hiff := eI_le hok.2 hok.1
    split
    · rename_i he
      exact ev_lift (fun hS _ w => lv_if_ge hS.1 hS.2.1 hd ht (fun q => absurd (hiff.mp q) (by omega)) (fun _ => w)) kn
    · rename_i he
      exact ev_lift (fun hS _ w => lv_if_ge hS.1 hS.2.1 hd ht (fun _ => w) (fun q => absurd (hiff.mpr (by omega)) q)) kt
  · exact ev_no
theorem ev_if_gt (t n : Nat) {a : Int} {off : Int} {A B : Option α} (hd : decode (mB M) pc = .ok (.ifCond .gt off, 3)) (ht : (pc : Int) + off = (t : Int)) (hn : n = pc + 3) (kt : EvO E M d cv t lo st h A) (kn : EvO E M d cv n lo st h B) : EvO E M d cv pc lo (eI a :: st) h (eLt 0 a A B) := by
  subst hn
  unfold eLt
  split
  · rename_i hok
    have hiff := eI_lt hok.1 hok.2
    split
    · rename_i he
      exact ev_lift (fun hS _ w => lv_if_gt hS.1 hS.2.1 hd ht (fun _ => w) (fun q => absurd (hiff.mpr he) q)) kt
    · rename_i he
      exact ev_lift (fun hS _ w => lv_if_gt hS.1 hS.2.1 hd ht (fun q => absurd (hiff.mp q) he) (fun _ => w)) kn
  · exact ev_no
theorem ev_if_le (t n : Nat) {a : Int} {off : Int} {A B : Option α} (hd : decode (mB M) pc = .ok (.ifCond .le off, 3)) (ht : (pc : Int) + off = (t : Int)) (hn : n = pc + 3) (kt : EvO E M d cv t lo st h A) (kn : EvO E M d cv n lo st h B) : EvO E M d cv pc lo (eI a :: st) h (eLt 0 a B A) := by
  subst hn
  unfold eLt
  split
  · rename_i hok
    have hiff := eI_le hok.2 hok.1
    split
    · rename_i he
      exact ev_lift (fun hS _ w => lv_if_le hS.1 hS.2.1 hd ht (fun q => absurd (hiff.mp q) (by omega)) (fun _ => w)) kn
    · rename_i he
      exact ev_lift (fun hS _ w => lv_if_le hS.1 hS.2.1 hd ht (fun _ => w) (fun q => absurd (hiff.mpr (by omega)) q)) kt
  · exact ev_no
theorem ev_icmp_eq (t n : Nat) {a b : Int} {off : Int} {A B : Option α} (hd : decode (mB M) pc = .ok (.if_icmp .eq off, 3)) (ht : (pc : Int) + off = (t : Int)) (hn : n = pc + 3) (kt : EvO E M d cv t lo st h A) (kn : EvO E M d cv n lo st h B) : EvO E M d cv pc lo (eI b :: eI a :: st) h (eEq a b A B) := by
  subst hn
  unfold eEq
  split
  · rename_i he
    subst he
    exact ev_lift (fun hS _ w => lv_icmp_eq hS.1 hS.2.1 hd ht (fun _ => w) (fun q => absurd rfl q)) kt
  · rename_i he
    split
    · rename_i hok
      exact ev_lift (fun hS _ w => lv_icmp_eq hS.1 hS.2.1 hd ht (fun q => absurd (eI_inj hok.1 hok.2 q) he) (fun _ => w)) kn
    · exact ev_no
theorem ev_icmp_ne (t n : Nat) {a b : Int} {off : Int} {A B : Option α} (hd : decode (mB M) pc = .ok (.if_icmp .ne off, 3)) (ht : (pc : Int) + off = (t : Int)) (hn : n = pc + 3) (kt : EvO E M d cv t lo st h A) (kn : EvO E M d cv n lo st h B) : EvO E M d cv pc lo (eI b :: eI a :: st) h (eEq a b B A) := by
  subst hn
  unfold eEq
  split
  · rename_i he
    subst he
    exact ev_lift (fun hS _ w => lv_icmp_ne hS.1 hS.2.1 hd ht (fun q => absurd rfl q) (fun _ => w)) kn
  · rename_i he
    split
    · rename_i hok
      exact ev_lift (fun hS _ w => lv_icmp_ne hS.1 hS.2.1 hd ht (fun _ => w) (fun q => absurd (eI_inj hok.1 hok.2 q) he)) kt
    · exact ev_no
theorem ev_icmp_lt (t n : Nat) {a b : Int} {off : Int} {A B : Option α} (hd : decode (mB M) pc = .ok (.if_icmp .lt off, 3)) (ht : (pc : Int) + off = (t : Int)) (hn : n = pc + 3) (kt : EvO E M d cv t lo st h A) (kn : EvO E M d cv n lo st h B) : EvO E M d cv pc lo (eI b :: eI a :: st) h (eLt a b A B) := by
  subst hn
  unfold eLt
  split
  · rename_i hok
    have hiff := eI_lt hok.1 hok.2
    split
    · rename_i he
      exact ev_lift (fun hS _ w => lv_icmp_lt hS.1 hS.2.1 hd ht (fun _ => w) (fun q => absurd (hiff.mpr he) q)) kt
    · rename_i he
      exact ev_lift (fun hS _ w => lv_icmp_lt hS.1 hS.2.1 hd ht (fun q => absurd (hiff.mp q) he) (fun _ => w)) kn
  · exact ev_no
theorem ev_icmp_ge (t n : Nat) {a b : Int} {off : Int} {A B : Option α} (hd : decode (mB M) pc = .ok (.if_icmp .ge off, 3)) (ht : (pc : Int) + off = (t : Int)) (hn : n = pc + 3) (kt : EvO E M d cv t lo st h A) (kn : EvO E M d cv n lo st h B) : EvO E M d cv pc lo (eI b :: eI a :: st) h (eLt a b B A) := by
  subst hn
  unfold eLt
  split
  · rename_i hok
    have hiff := eI_le hok.2 hok.1
    split
    · rename_i he
      exact ev_lift (fun hS _ w => lv_icmp_ge hS.1 hS.2.1 hd ht (fun q => absurd (hiff.mp q) (by omega)) (fun _ => w)) kn
    · rename_i he
      exact ev_lift (fun hS _ w => lv_icmp_ge hS.1 hS.2.1 hd ht (fun _ => w) (fun q => absurd (hiff.mpr (by omega)) q)) kt
  · exact ev_no
theorem ev_icmp_gt (t n : Nat) {a b : Int} {off : Int} {A B : Option α} (hd : decode (mB M) pc = .ok (.if_icmp .gt off, 3)) (ht : (pc : Int) + off = (t : Int)) (hn : n = pc + 3) (kt : EvO E M d cv t lo st h A) (kn : EvO E M d cv n lo st h B) : EvO E M d cv pc lo (eI b :: eI a :: st) h (eLt b a A B) := by
  subst hn
  unfold eLt
  split
  · rename_i hok
    have hiff := eI_lt hok.1 hok.2
    split
    · rename_i he
      exact ev_lift (fun hS _ w => lv_icmp_gt hS.1 hS.2.1 hd ht (fun _ => w) (fun q => absurd (hiff.mpr he) q)) kt
    · rename_i he
      exact ev_lift (fun hS _ w => lv_icmp_gt hS.1 hS.2.1 hd ht (fun q => absurd (hiff.mp q) he) (fun _ => w)) kn
  · exact ev_no
theorem ev_icmp_le (t n : Nat) {a b : Int} {off : Int} {A B : Option α} (hd : decode (mB M) pc = .ok (.if_icmp .le off, 3)) (ht : (pc : Int) + off = (t : Int)) (hn : n = pc + 3) (kt : EvO E M d cv t lo st h A) (kn : EvO E M d cv n lo st h B) : EvO E M d cv pc lo (eI b :: eI a :: st) h (eLt b a B A) := by
  subst hn
  unfold eLt
  split
  · rename_i hok
    have hiff := eI_le hok.2 hok.1
    split
    · rename_i he
      exact ev_lift (fun hS _ w => lv_icmp_le hS.1 hS.2.1 hd ht (fun q => absurd (hiff.mp q) (by omega)) (fun _ => w)) kn
    · rename_i he
      exact ev_lift (fun hS _ w => lv_icmp_le hS.1 hS.2.1 hd ht (fun _ => w) (fun q => absurd (hiff.mpr (by omega)) q)) kt
  · exact ev_no
theorem ev_ifnull (t n : Nat) {q : Option Nat} {off : Int} {A B : Option α} (hd : decode (mB M) pc = .ok (.ifnull off, 3)) (ht : (pc : Int) + off = (t : Int)) (hn : n = pc + 3) (kt : EvO E M d cv t lo st h A) (kn : EvO E M d cv n lo st h B) : EvO E M d cv pc lo (va_rf q :: st) h (eNu q A B) := by
  subst hn
  cases q with
  | none => exact ev_lift (fun hS _ w => lv_ifnullN hS.1 hS.2.1 hd ht w) kt
  | some a => exact ev_lift (fun hS _ w => lv_ifnull hS.1 hS.2.1 hd w) kn
theorem ev_ifnonnull (t n : Nat) {q : Option Nat} {off : Int} {A B : Option α} (hd : decode (mB M) pc = .ok (.ifnonnull off, 3)) (ht : (pc : Int) + off = (t : Int)) (hn : n = pc + 3) (kt : EvO E M d cv t lo st h A) (kn : EvO E M d cv n lo st h B) : EvO E M d cv pc lo (va_rf q :: st) h (eNu q B A) := by
  subst hn
  cases q with
  | none => exact ev_lift (fun hS _ w => lv_ifnonnullN hS.1 hS.2.1 hd w) kn
  | some a => exact ev_lift (fun hS _ w => lv_ifnonnull hS.1 hS.2.1 hd ht w) kt
theorem ev_acmp_eq (t n : Nat) {q r : Option Nat} {off : Int} {A B : Option α} (hd : decode (mB M) pc = .ok (.if_acmp .eq off, 3)) (ht : (pc : Int) + off = (t : Int)) (hn : n = pc + 3) (kt : EvO E M d cv t lo st h A) (kn : EvO E M d cv n lo st h B) : EvO E M d cv pc lo (va_rf r :: va_rf q :: st) h (eAe q r A B) := by
  subst hn
  unfold eAe
  split
  · rename_i he
    exact ev_lift (fun hS _ w => lv_acmp_eq hS.1 hS.2.1 hd ht (fun _ => w) (fun x => absurd he x)) kt
  · rename_i he
    exact ev_lift (fun hS _ w => lv_acmp_eq hS.1 hS.2.1 hd ht (fun x => absurd x he) (fun _ => w)) kn
theorem ev_acmp_ne (t n : Nat) {q r : Option Nat} {off : Int} {A B : Option α} (hd : decode (mB M) pc = .ok (.if_acmp .ne off, 3)) (ht : (pc : Int) + off = (t : Int)) (hn : n = pc + 3) (kt : EvO E M d cv t lo st h A) (kn : EvO E M d cv n lo st h B) : EvO E M d cv pc lo (va_rf r :: va_rf q :: st) h (eAe q r B A) := by
  subst hn
  unfold eAe
  split
  · rename_i he
    exact ev_lift (fun hS _ w => lv_acmp_ne hS.1 hS.2.1 hd ht (fun x => absurd he x) (fun _ => w)) kn
  · rename_i he
    exact ev_lift (fun hS _ w => lv_acmp_ne hS.1 hS.2.1 hd ht (fun _ => w) (fun x => absurd x he)) kt
-- a switch: peel the cases, then go
theorem ev_peel {z v : Int} {A B : Option α} (ka : z = v → EvO E M d cv pc lo (eI z :: st) h A) (kb : z ≠ v → eOk z = true → EvO E M d cv pc lo (eI z :: st) h B) : EvO E M d cv pc lo (eI z :: st) h (eEq z v A B) := by
  unfold eEq
  split
  · rename_i he
    exact ka he
  · rename_i he
    split
    · rename_i hok
      exact kb he hok.1
    · exact ev_no
theorem ev_tsIn (t : Nat) {z v dflt lw hi off : Int} {offs : Array Int} {len : Nat} (hd : decode (mB M) pc = .ok (.tableswitch dflt lw hi offs, len)) (hz : z = v) (hv : eOk v = true) (h1 : ¬ v < lw) (h2 : ¬ hi < v) (ho : offs[(v - lw).toNat]? = some off) (ht : (pc : Int) + off = (t : Int)) (k : EvO E M d cv t lo st h o) : EvO E M d cv pc lo (eI z :: st) h o := by
  subst hz
  exact ev_lift (fun hS _ w => lv_tableIn hS.1 hS.2.1 hd (by rw [eI_toInt hv]; exact h1) (by rw [eI_toInt hv]; exact h2) (by rw [eI_toInt hv]; exact ho) ht w) k
theorem ev_tsOut (t : Nat) {z dflt lw hi : Int} {offs : Array Int} {len : Nat} (hd : decode (mB M) pc = .ok (.tableswitch dflt lw hi offs, len)) (hok : eOk z = true) (hz : z < lw ∨ hi < z) (ht : (pc : Int) + dflt = (t : Int)) (k : EvO E M d cv t lo st h o) : EvO E M d cv pc lo (eI z :: st) h o :=
  ev_lift (fun hS _ w => lv_tableOut hS.1 hS.2.1 hd (by rw [eI_toInt hok]; exact hz) ht w) k
theorem ev_lsGo (t : Nat) {z dflt off : Int} {ps : Array (Int × Int)} {len : Nat} (hd : decode (mB M) pc = .ok (.lookupswitch dflt ps, len)) (hp : (ps.toList.zip (ps.toList.drop 1)).all (fun (a, next) => a.1 < next.1) = true) (hok : eOk z = true) (ho : Op.lookupswitch.offset ps.toList dflt z = off) (ht : (pc : Int) + off = (t : Int)) (k : EvO E M d cv t lo st h o) : EvO E M d cv pc lo (eI z :: st) h o :=
  ev_lift (fun hS _ w => lv_lookup hS.1 hS.2.1 hd hp (by rw [eI_toInt hok]; exact ho) ht w) k
theorem ev_end {x : Option Value × ev_hs} (hx : x.2 = h) (hv : ev_V M pc x.1 st) : Ev E M d pc lo st h x := by
  subst hx
  refine ⟨Nat.le_refl _, Nat.le_refl _, fun p e R s m args below meth c Z mc ms hS hT H locs cells slots ls hH hl hL hc hs => ?_⟩
  exact W.widen (k := mc) (n := ms) (by omega) (by omega) (hT H locs pc ls st hH hl hv)
theorem ev_ireturn {z : Int} (hd : decode (mB M) pc = .ok (.ireturn, 1)) (hr : mR M = some .int) : EvO E M d cvI pc lo [eI z] h (some (z, h)) := by
  intro x hx
  cases hx
  exact ev_end rfl (Or.inl ⟨hd, Int32.ofInt z, .int, rfl, rfl, hr, rfl⟩)
def eBo (z : Int) (h : ev_hs) : Option (Int × ev_hs) := if z = 0 ∨ z = 1 then some (z, h) else none
theorem ev_zreturn {z : Int} (hd : decode (mB M) pc = .ok (.ireturn, 1)) (hr : mR M = some .boolean) : EvO E M d cvI pc lo [eI z] h (eBo z h) := by
  intro x hx
  unfold eBo at hx
  split at hx
  · rename_i hz
    cases hx
    refine ev_end rfl (Or.inl ⟨hd, Int32.ofInt z, .boolean, rfl, rfl, hr, ?_⟩)
    rcases hz with rfl | rfl <;> decide
  · cases hx
theorem ev_areturn {q : Option Nat} {rt : FieldType} (hd : decode (mB M) pc = .ok (.areturn, 1)) (hr : mR M = some rt) (hrt : (∃ n, rt = .object n) ∨ ∃ t, rt = .array t) : EvO E M d cvR pc lo [va_rf q] h (some (q, h)) := by
  intro x hx
  cases hx
  exact ev_end rfl (Or.inr (Or.inl ⟨hd, q, rt, rfl, rfl, hr, hrt⟩))
theorem ev_return (hd : decode (mB M) pc = .ok (.return_, 1)) (hr : mR M = none) : EvO E M d cvV pc lo [] h (some h) := by
  intro x hx
  cases hx
  exact ev_end rfl (Or.inr (Or.inr ⟨hd, rfl, rfl, hr⟩))
end Rules2
end
section
section Mem
variable {p : Program} {l : Launch} {e : Env} {R : Room} {s : State} {m : MethodId} {args : Array Value} {below : List Frame} {meth : Method} {c : Code} {H : Heap} {locs : List Loc} {cells slots : Nat} {Z : State → Prop}
variable {cc : ByteArray} {pc : Nat} {ls : Array Slot} {rest : List Value} {D : va_G} {a : Nat}
theorem va_P1 {cl : List vw_C} {q : Nat × va_E} (hat : va_at D cl q H) : va_P D cl [q] H := by
  intro k x hx
  cases k with
  | zero => simp at hx; subst hx; exact hat
  | succ k => simp at hx
-- a class of ours: its table, its words, the types of its fields
def ev_CK (ci : Nat) (C : String) (T : u_T) (N : Nat) : Prop :=
  evC[ci]? = some (C, T, N) ∧ (∀ w ∈ u_ws C T N, w ∈ evW) ∧
  (∃ ty0 : Nat → FieldType, ∀ k, k < N → parseFieldDescriptor (T k).2.2.1 = some (ty0 k) ∧ (evF ci k = 0 → ty0 k = .int) ∧ (evF ci k = 1 → ty0 k = .boolean) ∧ (evF ci k = 2 → (∃ n, ty0 k = .object n) ∨ ∃ t, ty0 k = .array t) ∧ evF ci k ≤ 2) ∧
  ∀ a, a < N → ∀ b, b < N → a ≠ b → (T a).2.1 ≠ (T b).2.1
theorem evC_lt {ci : Nat} {q : vw_C} (h : evC[ci]? = some q) : ci < 49 := by
  have := (List.getElem?_eq_some_iff.mp h).1
  have e : evC.length = 12 := rfl
  omega
theorem evN_eq {ci N : Nat} {C : String} {T : u_T} (h : evC[ci]? = some (C, T, N)) : evN ci = N := by
  unfold evN
  rw [h]
  rfl
theorem ev_fs_get {h : ev_hs} {ci a k N : Nat} {C : String} {T : u_T} (hc : evC[ci]? = some (C, T, N)) (hk : k < N) : (ev_fs h ci a)[k]? = some (ev_fv h ci a k) := by
  unfold ev_fs
  rw [evN_eq hc, List.getElem?_map, List.getElem?_range hk]
  rfl
theorem ev_fs_len {h : ev_hs} {ci a N : Nat} {C : String} {T : u_T} (hc : evC[ci]? = some (C, T, N)) : (ev_fs h ci a).length = N := by
  unfold ev_fs
  rw [evN_eq hc, List.length_map, List.length_range]
theorem ev_put0 (hexec : p.tables.exec = Jvm.exec) (hb : c.code = cc) {own ref C : String} {T : u_T} {N ci index : Nat} (hts : ∀ w ∈ evW, w.before args s = true) (hin : ∀ w ∈ u_ws C T N, w ∈ evW) (ty0 : Nat → FieldType) (hty : ∀ k, k < N → parseFieldDescriptor (T k).2.2.1 = some (ty0 k)) (hnm : ∀ a, a < N → ∀ b, b < N → a ≠ b → (T a).2.1 ≠ (T b).2.1) (hown : s.vm.findClass own = some m.cls) (hK : va_K D evC [] s)
    {fs : List Value} (hat : va_at D evC (a, .inr (ci, fs)) H) (hc : evC[ci]? = some (C, T, N)) (k : Nat) (hk : k < N) (hlink : (Cond.fieldLink own index ref (T k).2.1 (T k).2.2.1).before args s = true) (hsame : ∀ x, s.fieldFound? (T k).1 (T k).2.1 (T k).2.2.1 = some x → s.fieldFound? ref (T k).2.1 (T k).2.2.1 = some x)
    (hfin : (T k).2.2.2 = false ∨ ((T k).2.2.2 = true ∧ meth.name = "<init>" ∧ (T k).1 = own)) {v : Value} (hn : narrow (ty0 k) v = v) (hfit : fits (ty0 k) v = true) (hl : k < fs.length) (hdg : decode cc pc = .ok (.putfield index, 3))
    (kk : ∀ (H1 : Heap) (j : Nat), va_at D evC (a, .inr (ci, fs.set k v)) H1 → H1.size = H.size → (∀ q, q ≠ a → H1[q]? = H[q]?) → W p l e R s m args below meth c H1 (locs ++ [⟨a, j⟩]) cells slots Z (F0 m (pc + 3) ls rest)) :
    W p l e R s m args below meth c H locs cells slots Z (F0 m pc ls (v :: .ref a :: rest)) := by
  have hd := hty k hk
  have hap := va_apart (own := own) hts hin ty0 hty hnm hK hc
  obtain ⟨r, h1, cell, q1, q2, q3, q4⟩ := hat
  have hr : r = (C, T, N) := Option.some.inj (h1.symm.trans hc)
  subst hr
  obtain ⟨hS, hfc, kC, hkC, hkind⟩ := hK.1 ci _ hc
  obtain ⟨cf, kf, fi, f, hi, hsl⟩ := hS k hk
  have hlay := hts _ (hin _ (u_in_lay hk))
  unfold u_lay at hlay
  have hst := (u_facts hfc hkC (u_lays hts hin hk) hi).1
  rcases hfin with hfin | ⟨hfin, hin2, hdecl⟩
  · rw [if_neg (by rw [hfin]; decide)] at hlay
    have h6 := u_store hfc hkC hkind hlay hi hd hn hfit
    refine W.putK hexec hb (f := f) ⟨hown, hlink, ⟨_, _, _, hsame _ hi⟩, hst⟩ (by rw [q2]; exact h6) q1 q3 (by rw [hsl]; exact k2_hasslot (q4 k hk)) rfl rfl hdg fun H' e1 e2 e3 => ?_
    rw [hsl] at e1 ⊢
    exact kk H' _ ⟨_, hc, t_OB.to (V := updV (vp_V fs) k v) ⟨_, e1, q2, q3, t_set q4 hap hk v⟩ (fun j _ => vp_updV_set hl v j)⟩ e2 e3
  · rw [if_pos hfin] at hlay
    have hcf : m.cls = cf := by
      obtain ⟨_, _, c', _, _, _, -, -, hf', -, -, -, hown2, -⟩ := Cond.laysFinal_spec hlay
      have e1 : c' = cf := by have := hi.symm.trans hf'; simp at this; exact this.1.symm
      rw [hdecl] at hown2
      rw [← e1]; exact Option.some.inj (hown.symm.trans hown2)
    have h6 := u_fits hfc hkC hkind (Or.inr hlay) hi hd hn hfit
    refine W.putFinK hexec hb hown hlink (hsame _ hi) hst hcf hin2 (by rw [q2]; exact h6) q1 q3 (by rw [hsl]; exact k2_hasslot (q4 k hk)) rfl rfl hdg fun H' e1 e2 e3 => ?_
    rw [hsl] at e1 ⊢
    exact kk H' _ ⟨_, hc, t_OB.to (V := updV (vp_V fs) k v) ⟨_, e1, q2, q3, t_set q4 hap hk v⟩ (fun j _ => vp_updV_set hl v j)⟩ e2 e3
end Mem
section Heap1
variable {E : ev_E} {h h' : ev_hs} {H H1 : Heap} {a : Nat}
theorem ev_at_kept {b : Nat} (h1 : ev_at E h H b) (hk : xK h' b = xK h b) (hl : xL h' b = xL h b) (hi : ∀ f, xI h' f b = xI h f b) (hr : ∀ f, xR h' f b = xR h f b) (ha : xA h' b = xA h b) (hq : xQ h' b = xQ h b) (ho : H1[b]? = H[b]?) : ev_at E h' H1 b := by
  obtain ⟨x1, x2, x3, x4⟩ := h1
  have hfs : ∀ c, ev_fs h' c b = ev_fs h c b := fun c => by
    unfold ev_fs
    exact congrArg (fun f => List.map f _) (funext fun k => by simp only [ev_fv, hi, hr])
  unfold ev_at
  rw [hk, hl, ha, hq, ho]
  refine ⟨fun c hc h49 => ?_, x2, x3, x4⟩
  rw [hfs]
  exact (x1 c hc h49).kept ho
-- one cell of ours is written
theorem ev_H_put (hH : ev_H E h H) (hk : xK h' = xK h) (hl : xL h' = xL h) (hz : xZ h' = xZ h) (he : xE h' = xE h) (hm : xM h' = xM h) (h0 : e0 E ≤ a) (hz1 : H1.size = H.size) (ho : ∀ q, q ≠ a → H1[q]? = H[q]?)
    (hi : ∀ b, b ≠ a → (∀ f, xI h' f b = xI h f b) ∧ (∀ f, xR h' f b = xR h f b) ∧ xA h' b = xA h b ∧ xQ h' b = xQ h b) (hat : xK h a ≠ 0 → ev_at E h' H1 a) : ev_H E h' H1 := by
  obtain ⟨x1, x2, x3, x4, x5, x6, x7⟩ := hH
  refine ⟨by rw [hz1, hz]; exact x1, by rw [hz]; exact x2, by rw [he]; exact x3, by rw [hm]; exact x4, x5, fun q hq => ?_, fun b hb => ?_⟩
  · rw [ho q (by omega)]
    exact x6 q hq
  · rw [hk] at hb ⊢
    rw [hl, hz]
    obtain ⟨y1, y2, y3, y4⟩ := x7 b hb
    refine ⟨y1, y2, y3, ?_⟩
    by_cases hba : b = a
    · subst hba
      exact hat hb
    · obtain ⟨i1, i2, i3, i4⟩ := hi b hba
      exact ev_at_kept y4 (by rw [hk]) (by rw [hl]) i1 i2 i3 i4 (ho b hba)
-- a cell is made
theorem ev_H_new {t : Nat} (hH : ev_H E h H) (ht : t ≠ 0) (hk : xK h' = va_up (xK h) (xZ h) t) (hz : xZ h' = xZ h + 1) (he : xE h' = xE h) (hm : xM h' = xM h) (hz1 : H1.size = H.size + 1) (ho : ∀ q, q < H.size → H1[q]? = H[q]?)
    (hi : ∀ b, b ≠ xZ h → xL h' b = xL h b ∧ (∀ f, xI h' f b = xI h f b) ∧ (∀ f, xR h' f b = xR h f b) ∧ xA h' b = xA h b ∧ xQ h' b = xQ h b) (hln : xL h' (xZ h) < 2147483648) (hat : ev_at E h' H1 (xZ h)) : ev_H E h' H1 := by
  obtain ⟨x1, x2, x3, x4, x5, x6, x7⟩ := hH
  refine ⟨by rw [hz1, hz, x1], by rw [hz]; omega, by rw [he]; exact x3, by rw [hm]; exact x4, x5, fun q hq => ?_, fun b hb => ?_⟩
  · rw [ho q (by omega)]
    exact x6 q hq
  · by_cases hba : b = xZ h
    · subst hba
      exact ⟨by omega, hln, Or.inl x2, hat⟩
    · rw [hk] at hb ⊢
      have e : va_up (xK h) (xZ h) t b = xK h b := by simp [va_up, hba]
      rw [e] at hb ⊢
      obtain ⟨y1, y2, y3, y4⟩ := x7 b hb
      obtain ⟨i0, i1, i2, i3, i4⟩ := hi b hba
      rw [i0]
      exact ⟨by omega, y2, y3, ev_at_kept y4 (by rw [hk, e]) i0 i1 i2 i3 i4 (ho b (by omega))⟩
theorem ev_obj (hH : ev_H E h H) {c : Nat} (hk : xK h a = c + 1) (hc : c < 49) : e0 E ≤ a ∧ va_at (eD E) evC (a, .inr (c, ev_fs h c a)) H := by
  obtain ⟨x1, x2, x3, x4, x5, x6, x7⟩ := hH
  obtain ⟨y1, y2, y3, y4⟩ := x7 a (by omega)
  exact ⟨by omega, y4.1 c hk hc⟩
theorem ev_arrI (hH : ev_H E h H) {t : Nat} (hk : xK h a = t) (h1 : 50 ≤ t) (h2 : t ≤ 51) : e0 E ≤ a ∧ xL h a < 2147483648 ∧ H[a]? = some (vp_cell (eA E t) (xL h a, .inl (fun j => Int32.ofInt (xA h a j)))) := by
  obtain ⟨x1, x2, x3, x4, x5, x6, x7⟩ := hH
  obtain ⟨y1, y2, y3, y4⟩ := x7 a (by omega)
  subst hk
  exact ⟨by omega, y2, y4.2.1 h1 h2⟩
theorem ev_arrQ (hH : ev_H E h H) {t : Nat} (hk : xK h a = t) (h1 : 52 ≤ t) (h2 : t ≤ 57) : (e0 E ≤ a ∨ xL h a = 0) ∧ xL h a < 2147483648 ∧ H[a]? = some (vp_cell (eA E t) (xL h a, .inr (.inr (.inr (.inr (xQ h a)))))) := by
  obtain ⟨x1, x2, x3, x4, x5, x6, x7⟩ := hH
  obtain ⟨y1, y2, y3, y4⟩ := x7 a (by omega)
  subst hk
  exact ⟨by omega, y2, y4.2.2.1 h1 h2⟩
theorem ev_arrS (hH : ev_H E h H) (hk : xK h a = 58) : xL h a < 2147483648 ∧ H[a]? = some (eSc E) ∧ (eSc E).slots.size = xL h a ∧ ∀ j, j < xL h a → (eSc E).slots[j]? = some (eI (xA h a j)) := by
  obtain ⟨x1, x2, x3, x4, x5, x6, x7⟩ := hH
  obtain ⟨y1, y2, y3, y4⟩ := x7 a (by omega)
  exact ⟨y2, y4.2.2.2 hk⟩
theorem ev_fs_setI {c k : Nat} {z : Int} (hB : evB c k = false) : ev_fs (wI h (100 * c + k) a z) c a = (ev_fs h c a).set k (eI z) := by
  apply List.ext_getElem?
  intro j
  unfold ev_fs
  rw [List.getElem?_set, List.getElem?_map, List.getElem?_map]
  by_cases hj : j < evN c
  · rw [List.getElem?_range hj]
    by_cases hjk : k = j
    · subst hjk
      simp [hj, ev_fv, hB, wI, xI, up2]
    · have : ¬ (100 * c + j = 100 * c + k) := by omega
      simp [hjk, Ne.symm hjk, ev_fv, wI, xI, xR, up2, this]
  · have e : (List.range (evN c))[j]? = none := by simp; omega
    rw [e]
    by_cases hjk : k = j
    · subst hjk
      simp; omega
    · simp [hjk]
theorem ev_fs_setR {c k : Nat} {z : Option Nat} (hB : evB c k = true) : ev_fs (wR h (100 * c + k) a z) c a = (ev_fs h c a).set k (va_rf z) := by
  apply List.ext_getElem?
  intro j
  unfold ev_fs
  rw [List.getElem?_set, List.getElem?_map, List.getElem?_map]
  by_cases hj : j < evN c
  · rw [List.getElem?_range hj]
    by_cases hjk : k = j
    · subst hjk
      simp [hj, ev_fv, hB, wR, xR, up2]
    · have : ¬ (100 * c + j = 100 * c + k) := by omega
      simp [hjk, Ne.symm hjk, ev_fv, wR, xI, xR, up2, this]
  · have e : (List.range (evN c))[j]? = none := by simp; omega
    rw [e]
    by_cases hjk : k = j
    · subst hjk
      simp; omega
    · simp [hjk]
end Heap1
-- a link to the field k of class c; nm: the name of the method that writes it
def ev_FL (own : String) (ix ci k : Nat) : Prop := ∃ (C : String) (T : u_T) (N : Nat) (ref : String), ev_CK ci C T N ∧ k < N ∧ Cond.fieldLink own ix ref (T k).2.1 (T k).2.2.1 ∈ evW ∧ (ref = (T k).1 ∨ Cond.sameField ref (T k).1 (T k).2.1 (T k).2.2.1 ∈ evW)
def ev_FW (own nm : String) (ix ci k : Nat) : Prop := ∃ (C : String) (T : u_T) (N : Nat) (ref : String), ev_CK ci C T N ∧ k < N ∧ Cond.fieldLink own ix ref (T k).2.1 (T k).2.2.1 ∈ evW ∧ (ref = (T k).1 ∨ Cond.sameField ref (T k).1 (T k).2.1 (T k).2.2.1 ∈ evW) ∧ ((T k).2.2.2 = false ∨ ((T k).2.2.2 = true ∧ nm = "<init>" ∧ (T k).1 = own))
theorem ev_same {args : Array Value} {s : State} {ref dc nm ds : String} (hts : ∀ w ∈ evW, w.before args s = true) (hs : ref = dc ∨ Cond.sameField ref dc nm ds ∈ evW) : ∀ x, s.fieldFound? dc nm ds = some x → s.fieldFound? ref nm ds = some x := by
  intro x hx
  rcases hs with rfl | hs
  · exact hx
  · exact u_same (hts _ hs) x hx
section Rules3
variable {α : Type} {E : ev_E} {M : ev_M} {d : Nat} {cv : α → Option Value × ev_hs} {pc : Nat} {lo : List (Option Value)} {st : List Value} {h : ev_hs} {o : Option α}
theorem ev_gI (n : Nat) {c k ix : Nat} {q : Option Nat} {K : Int → Option α} (hd : decode (mB M) pc = .ok (.getfield ix, 3)) (hf : ev_FL (mY M).cls ix c k) (hB : evB c k = false) (hn : n = pc + 3) (k1 : ∀ z, EvO E M d cv n lo (eI z :: st) h (K z)) : EvO E M d cv pc lo (va_rf q :: st) h (gI h c k q K) := by
  subst hn
  unfold gI
  cases q with
  | none => exact ev_no
  | some a =>
    dsimp only
    split
    · rename_i hk
      refine ev_liftH (fun hS hL hH hlo w => ?_) (k1 _)
      obtain ⟨C, T, N, ref, ⟨hc, hin, -, -⟩, hkN, hlink, hsame⟩ := hf
      have hts := hS.2.2.2.2.2.1
      refine va_get hS.1 hS.2.1 hts hin hS.2.2.2.1 hS.2.2.2.2.2.2.1.1 (va_P1 (ev_obj hH hk (evC_lt hc)).2) 0 rfl hc k hkN (hts _ hlink) (ev_same hts hsame) (ev_fs_get hc hkN) hd ?_
      unfold ev_fv
      rw [if_neg (by rw [hB]; decide)]
      exact w
    · exact ev_no
theorem ev_gR (n : Nat) {c k ix : Nat} {q : Option Nat} {K : Option Nat → Option α} (hd : decode (mB M) pc = .ok (.getfield ix, 3)) (hf : ev_FL (mY M).cls ix c k) (hB : evB c k = true) (hn : n = pc + 3) (k1 : ∀ z, EvO E M d cv n lo (va_rf z :: st) h (K z)) : EvO E M d cv pc lo (va_rf q :: st) h (gR h c k q K) := by
  subst hn
  unfold gR
  cases q with
  | none => exact ev_no
  | some a =>
    dsimp only
    split
    · rename_i hk
      refine ev_liftH (fun hS hL hH hlo w => ?_) (k1 _)
      obtain ⟨C, T, N, ref, ⟨hc, hin, -, -⟩, hkN, hlink, hsame⟩ := hf
      have hts := hS.2.2.2.2.2.1
      refine va_get hS.1 hS.2.1 hts hin hS.2.2.2.1 hS.2.2.2.2.2.2.1.1 (va_P1 (ev_obj hH hk (evC_lt hc)).2) 0 rfl hc k hkN (hts _ hlink) (ev_same hts hsame) (ev_fs_get hc hkN) hd ?_
      unfold ev_fv
      rw [if_pos hB]
      exact w
    · exact ev_no
theorem ev_putO {h' : ev_hs} {c k ix a : Nat} {v : Value} (hd : decode (mB M) pc = .ok (.putfield ix, 3)) (hf : ev_FW (mY M).cls (mY M).name ix c k) (hk : xK h a = c + 1)
    (hty : ∀ (ty : FieldType), (evF c k = 0 → ty = .int) → (evF c k = 1 → ty = .boolean) → (evF c k = 2 → (∃ n, ty = .object n) ∨ ∃ t, ty = .array t) → narrow ty v = v ∧ fits ty v = true)
    (e1 : xK h' = xK h) (e2 : xL h' = xL h) (e3 : xZ h' = xZ h) (e4 : xE h' = xE h) (e5 : xM h' = xM h) (e6 : xC h' = xC h) (e7 : xS h' = xS h)
    (hi : ∀ b, b ≠ a → (∀ f, xI h' f b = xI h f b) ∧ (∀ f, xR h' f b = xR h f b) ∧ xA h' b = xA h b ∧ xQ h' b = xQ h b) (hfs : ev_fs h' c a = (ev_fs h c a).set k v)
    (k1 : EvO E M d cv (pc + 3) lo st h' o) : EvO E M d cv pc lo (v :: .ref a :: st) h o := by
  refine ev_liftW (c1 := 0) (s1 := 0) (by omega) (by omega) (fun hS hL hH hlo hc1 hs1 w => ?_) k1
  obtain ⟨C, T, N, ref, ⟨hc, hin, ⟨ty0, hty0⟩, hnm⟩, hkN, hlink, hsame, hfin⟩ := hf
  have hts := hS.2.2.2.2.2.1
  obtain ⟨h0, hat⟩ := ev_obj hH hk (evC_lt hc)
  obtain ⟨g1, g2⟩ := hty (ty0 k) (hty0 k hkN).2.1 (hty0 k hkN).2.2.1 (hty0 k hkN).2.2.2.1
  refine ev_put0 hS.1 hS.2.1 hts hin ty0 (fun j hj => (hty0 j hj).1) hnm hS.2.2.2.1 hS.2.2.2.2.2.2.1.1 hat hc k hkN (hts _ hlink) (ev_same hts hsame) ?_ g1 g2 (by rw [ev_fs_len hc]; exact hkN) hd (fun H1 j hat1 hz1 ho => ?_)
  · rw [hS.2.2.2.2.1]
    exact hfin
  · refine w H1 _ (ev_H_put hH e1 e2 e3 e4 e5 h0 hz1 ho hi (fun _ => ⟨fun c9 hc9 _ => ?_, fun u1 u2 => ?_, fun u1 u2 => ?_, fun u1 => ?_⟩)) (t_lL hlo (by simp; exact h0))
    · rw [e1, hk] at hc9
      have : c9 = c := by omega
      subst this
      rw [hfs]
      exact hat1
    · exfalso
      have := evC_lt hc
      rw [e1, hk] at u1
      omega
    · exfalso
      have := evC_lt hc
      rw [e1, hk] at u1
      omega
    · exfalso
      have := evC_lt hc
      rw [e1, hk] at u1
      omega
theorem ev_pI (n : Nat) {c k ix : Nat} {q : Option Nat} {z : Int} {K : ev_hs → Option α} (hd : decode (mB M) pc = .ok (.putfield ix, 3)) (hf : ev_FW (mY M).cls (mY M).name ix c k) (hB : evF c k = 0) (hn : n = pc + 3) (k1 : ∀ g, EvO E M d cv n lo st g (K g)) : EvO E M d cv pc lo (eI z :: va_rf q :: st) h (pI h c k q z K) := by
  subst hn
  unfold pI
  cases q with
  | none => exact ev_no
  | some a =>
    dsimp only
    split
    · rename_i hk
      refine ev_putO (h' := wI h (100 * c + k) a z) hd hf hk (fun ty h0 h1 h2 => by rw [h0 hB]; exact ⟨rfl, rfl⟩) rfl rfl rfl rfl rfl rfl rfl (fun b hb => ⟨fun f => ?_, fun f => rfl, rfl, rfl⟩) (ev_fs_setI (by simp [evB, hB])) (k1 _)
      simp [wI, xI, up2, hb]
    · exact ev_no
theorem ev_pZ (n : Nat) {c k ix : Nat} {q : Option Nat} {z : Int} {K : ev_hs → Option α} (hd : decode (mB M) pc = .ok (.putfield ix, 3)) (hf : ev_FW (mY M).cls (mY M).name ix c k) (hB : evF c k = 1) (hn : n = pc + 3) (k1 : ∀ g, EvO E M d cv n lo st g (K g)) : EvO E M d cv pc lo (eI z :: va_rf q :: st) h (pZ h c k q z K) := by
  subst hn
  unfold pZ
  cases q with
  | none => exact ev_no
  | some a =>
    dsimp only
    split
    · rename_i hk
      refine ev_putO (h' := wI h (100 * c + k) a z) hd hf hk.1 (fun ty h0 h1 h2 => by rw [h1 hB]; rcases hk.2 with rfl | rfl <;> decide) rfl rfl rfl rfl rfl rfl rfl (fun b hb => ⟨fun f => ?_, fun f => rfl, rfl, rfl⟩) (ev_fs_setI (by simp [evB, hB])) (k1 _)
      simp [wI, xI, up2, hb]
    · exact ev_no
theorem ev_pR (n : Nat) {c k ix : Nat} {q v : Option Nat} {K : ev_hs → Option α} (hd : decode (mB M) pc = .ok (.putfield ix, 3)) (hf : ev_FW (mY M).cls (mY M).name ix c k) (hB : evF c k = 2) (hn : n = pc + 3) (k1 : ∀ g, EvO E M d cv n lo st g (K g)) : EvO E M d cv pc lo (va_rf v :: va_rf q :: st) h (pR h c k q v K) := by
  subst hn
  unfold pR
  cases q with
  | none => exact ev_no
  | some a =>
    dsimp only
    split
    · rename_i hk
      refine ev_putO (h' := wR h (100 * c + k) a v) hd hf hk (fun ty h0 h1 h2 => by rcases h2 hB with ⟨nm, rfl⟩ | ⟨t, rfl⟩ <;> cases v <;> exact ⟨rfl, rfl⟩) rfl rfl rfl rfl rfl rfl rfl (fun b hb => ⟨fun f => rfl, fun f => ?_, rfl, rfl⟩) (ev_fs_setR (by simp [evB, hB])) (k1 _)
      simp [wR, xR, up2, hb]
    · exact ev_no
end Rules3
theorem ev_K1 {E : ev_E} {s : State} (hK : ev_K E s) {t : Nat} (h1 : 50 ≤ t) (h2 : t ≤ 57) : va_K (eD E) evC [(eA E t, evTy t)] s := by
  refine ⟨hK.1.1, fun k q hq => ?_⟩
  cases k with
  | zero => simp at hq; subst hq; exact hK.2.1 t h1 h2
  | succ k => simp at hq
theorem ev_cellI (cA : ClassId) (n j : Nat) (f : Nat → Int32) (x : Int32) : (vp_cell cA (n, .inl f)).setSlot j (.int x) = vp_cell cA (n, .inl (fun i => if i = j then x else f i)) := by
  rw [vp_cell_i, vp_cell_i, arrV_store]
  congr 1
  funext q
  by_cases hq : q = j <;> simp [updV, hq]
theorem ev_cellQ (cA : ClassId) (n j : Nat) (f : Nat → Option Nat) (x : Option Nat) : (vp_cell cA (n, .inr (.inr (.inr (.inr f))))).setSlot j (va_rf x) = vp_cell cA (n, .inr (.inr (.inr (.inr (fun i => if i = j then x else f i))))) := by
  rw [vp_cell_q, vp_cell_q, arrV_store]
  congr 1
  funext q
  by_cases hq : q = j <;> simp [updV, hq]
theorem ev_hAw {h : ev_hs} {a j : Nat} {z : Int} : xA (wA h a j z) a = fun i => if i = j then z else xA h a i := by
  funext i
  simp [wA, xA, up2]
theorem ev_hQw {h : ev_hs} {a j : Nat} {z : Option Nat} : xQ (wQ h a j z) a = fun i => if i = j then z else xQ h a i := by
  funext i
  simp [wQ, xQ, up2]
def ev_AO (t ec : Nat) : Prop := ∃ (C0 C : String) (T : u_T) (N : Nat), evTy t = .object C0 ∧ evC[ec]? = some (C, T, N) ∧ ∀ (E : ev_E) (s : State), ev_K E s → ∀ comp c0 : ClassId, s.vm.findClass C0 = some comp → s.vm.findClass C = some c0 → s.vm.assignable c0 comp = true
section Rules4
variable {α : Type} {E : ev_E} {M : ev_M} {d : Nat} {cv : α → Option Value × ev_hs} {pc : Nat} {lo : List (Option Value)} {st : List Value} {h : ev_hs} {o : Option α}
theorem ev_iaload (n : Nat) {q : Option Nat} {i : Int} {K : Int → Option α} (hd : decode (mB M) pc = .ok (.iaload, 1)) (hn : n = pc + 1) (k1 : ∀ z, EvO E M d cv n lo (eI z :: st) h (K z)) : EvO E M d cv pc lo (eI i :: va_rf q :: st) h (lI h 50 q i K) := by
  subst hn
  unfold lI
  cases q with
  | none => exact ev_no
  | some a =>
    dsimp only
    split
    · rename_i hk
      obtain ⟨hk, h0, h1⟩ := hk
      refine ev_liftH (fun hS hL hH hlo w => ?_) (k1 _)
      obtain ⟨g0, g1, g2⟩ := ev_arrI hH hk (by omega) (by omega)
      refine va_iald hS.1 hS.2.1 (ev_K1 hS.2.2.2.2.2.2.1 (t := 50) (by omega) (by omega)) (va_P1 (q := (a, .inl (eA E 50, xL h a, .inl _))) g2) 0 0 rfl rfl (eI_in h0 h1 g1) hd ?_
      rw [eI_cl h0 (by omega)]
      exact w
    · exact ev_no
theorem ev_baload (n : Nat) {q : Option Nat} {i : Int} {K : Int → Option α} (hd : decode (mB M) pc = .ok (.baload, 1)) (hn : n = pc + 1) (k1 : ∀ z, EvO E M d cv n lo (eI z :: st) h (K z)) : EvO E M d cv pc lo (eI i :: va_rf q :: st) h (lI h 51 q i K) := by
  subst hn
  unfold lI
  cases q with
  | none => exact ev_no
  | some a =>
    dsimp only
    split
    · rename_i hk
      obtain ⟨hk, h0, h1⟩ := hk
      refine ev_liftH (fun hS hL hH hlo w => ?_) (k1 _)
      obtain ⟨g0, g1, g2⟩ := ev_arrI hH hk (by omega) (by omega)
      refine va_zald hS.1 hS.2.1 (ev_K1 hS.2.2.2.2.2.2.1 (t := 51) (by omega) (by omega)) (va_P1 (q := (a, .inl (eA E 51, xL h a, .inl _))) g2) 0 0 rfl rfl (eI_in h0 h1 g1) hd ?_
      rw [eI_cl h0 (by omega)]
      exact w
    · exact ev_no
theorem ev_saload (n : Nat) {q : Option Nat} {i : Int} {K : Int → Option α} (hd : decode (mB M) pc = .ok (.iaload, 1)) (hn : n = pc + 1) (k1 : ∀ z, EvO E M d cv n lo (eI z :: st) h (K z)) : EvO E M d cv pc lo (eI i :: va_rf q :: st) h (lI h 58 q i K) := by
  subst hn
  unfold lI
  cases q with
  | none => exact ev_no
  | some a =>
    dsimp only
    split
    · rename_i hk
      obtain ⟨hk, h0, h1⟩ := hk
      refine ev_liftH (fun hS hL hH hlo w => ?_) (k1 _)
      obtain ⟨g1, g2, g3, g4⟩ := ev_arrS hH hk
      have hin := eI_in h0 h1 g1
      refine W.iald hS.1 hS.2.1 g2 hS.2.2.2.2.2.2.1.2.2.1 hS.2.2.2.2.2.2.1.2.2.2.1 (by rw [g3]; exact hin) (v := eI (xA h a i.toNat)) ?_ rfl rfl hd w
      rw [eI_cl h0 (by omega)]
      exact g4 _ (by omega)
    · exact ev_no
theorem ev_aaload (n : Nat) {t : Nat} {q : Option Nat} {i : Int} {K : Option Nat → Option α} (hd : decode (mB M) pc = .ok (.aaload, 1)) (ht : 52 ≤ t ∧ t ≤ 57) (hty : ∃ C, evTy t = .object C) (hn : n = pc + 1) (k1 : ∀ z, EvO E M d cv n lo (va_rf z :: st) h (K z)) : EvO E M d cv pc lo (eI i :: va_rf q :: st) h (lQ h t q i K) := by
  subst hn
  unfold lQ
  cases q with
  | none => exact ev_no
  | some a =>
    dsimp only
    split
    · rename_i hk
      obtain ⟨hk, h0, h1⟩ := hk
      refine ev_liftH (fun hS hL hH hlo w => ?_) (k1 _)
      obtain ⟨g0, g1, g2⟩ := ev_arrQ hH hk ht.1 ht.2
      obtain ⟨C, hC⟩ := hty
      refine va_aldq (C := C) hS.1 hS.2.1 (ev_K1 hS.2.2.2.2.2.2.1 (t := t) (by omega) ht.2) (va_P1 (q := (a, .inl (eA E t, xL h a, .inr (.inr (.inr (.inr _)))))) g2) 0 0 rfl (by rw [hC]; rfl) (eI_in h0 h1 g1) hd ?_
      rw [eI_cl h0 (by omega)]
      exact w
    · exact ev_no
theorem ev_alen (n : Nat) {t : Nat} {q : Option Nat} {K : Int → Option α} (hd : decode (mB M) pc = .ok (.arraylength, 1)) (ht : 50 ≤ t ∧ t ≤ 57) (hn : n = pc + 1) (k1 : ∀ z, EvO E M d cv n lo (eI z :: st) h (K z)) : EvO E M d cv pc lo (va_rf q :: st) h (aL h t q K) := by
  subst hn
  unfold aL
  cases q with
  | none => exact ev_no
  | some a =>
    dsimp only
    split
    · rename_i hk
      refine ev_liftH (fun hS hL hH hlo w => ?_) (k1 _)
      by_cases h51 : t ≤ 51
      · obtain ⟨g0, g1, g2⟩ := ev_arrI hH hk ht.1 h51
        exact va_alen hS.1 hS.2.1 (ev_K1 hS.2.2.2.2.2.2.1 (t := t) ht.1 ht.2) (va_P1 (q := (a, .inl (eA E t, xL h a, .inl _))) g2) 0 0 rfl rfl (eI_nat _).symm hd w
      · obtain ⟨g0, g1, g2⟩ := ev_arrQ hH hk (by omega) ht.2
        exact va_alen hS.1 hS.2.1 (ev_K1 hS.2.2.2.2.2.2.1 (t := t) ht.1 ht.2) (va_P1 (q := (a, .inl (eA E t, xL h a, .inr (.inr (.inr (.inr _)))))) g2) 0 0 rfl rfl (eI_nat _).symm hd w
    · exact ev_no
theorem ev_slen (n : Nat) {q : Option Nat} {K : Int → Option α} (hd : decode (mB M) pc = .ok (.arraylength, 1)) (hn : n = pc + 1) (k1 : ∀ z, EvO E M d cv n lo (eI z :: st) h (K z)) : EvO E M d cv pc lo (va_rf q :: st) h (aL h 58 q K) := by
  subst hn
  unfold aL
  cases q with
  | none => exact ev_no
  | some a =>
    dsimp only
    split
    · rename_i hk
      refine ev_liftH (fun hS hL hH hlo w => ?_) (k1 _)
      obtain ⟨g1, g2, g3, g4⟩ := ev_arrS hH hk
      exact W.alen hS.1 hS.2.1 g2 hS.2.2.2.2.2.2.1.2.2.1 (by rw [g3]; exact (eI_nat _).symm) rfl rfl hd w
    · exact ev_no
theorem ev_sI0 {t a : Nat} {i : Int} {z : Int} {H : Heap} {H1 : Heap} (hH : ev_H E h H) (hk : xK h a = t) (h1 : 50 ≤ t) (h2 : t ≤ 51) (h0 : 0 ≤ i) (hi : i < (xL h a : Int))
    (e1 : H1[a]? = some ((vp_cell (eA E t) (xL h a, .inl (fun j => Int32.ofInt (xA h a j)))).setSlot (Int32.ofInt i).toNatClampNeg (.int (Int32.ofInt z)))) (e2 : H1.size = H.size) (e3 : ∀ q, q ≠ a → H1[q]? = H[q]?) : ev_H E (wA h a i.toNat z) H1 := by
  obtain ⟨g0, g1, g2⟩ := ev_arrI hH hk h1 h2
  rw [eI_cl h0 (by omega), ev_cellI] at e1
  refine ev_H_put hH rfl rfl rfl rfl rfl g0 e2 e3 (fun b hb => ⟨fun f => rfl, fun f => rfl, ?_, rfl⟩) (fun _ => ⟨fun c9 hc9 h49 => ?_, fun u1 u2 => ?_, fun u1 u2 => ?_, fun u1 => ?_⟩)
  · funext j
    simp [wA, xA, up2, hb]
  · have e : xK (wA h a i.toNat z) a = xK h a := rfl
    rw [e, hk] at hc9
    omega
  · have e : xK (wA h a i.toNat z) a = t := hk
    rw [e, e1, ev_hAw]
    congr 3
    congr 1
    funext j
    by_cases hj : j = i.toNat <;> simp [hj]
  · have e : xK (wA h a i.toNat z) a = t := hk
    rw [e] at u1
    omega
  · have e : xK (wA h a i.toNat z) a = t := hk
    rw [e] at u1
    omega
theorem ev_iastore (n : Nat) {q : Option Nat} {i z : Int} {K : ev_hs → Option α} (hd : decode (mB M) pc = .ok (.iastore, 1)) (hn : n = pc + 1) (k1 : ∀ g, EvO E M d cv n lo st g (K g)) : EvO E M d cv pc lo (eI z :: eI i :: va_rf q :: st) h (sI h 50 q i z K) := by
  subst hn
  unfold sI
  cases q with
  | none => exact ev_no
  | some a =>
    dsimp only
    split
    · rename_i hk
      obtain ⟨hk, h0, h1⟩ := hk
      refine ev_liftW (h' := wA h a i.toNat z) (c1 := 0) (s1 := 0) rfl rfl (fun hS hL hH hlo hc1 hs1 w => ?_) (k1 _)
      obtain ⟨g0, g1, g2⟩ := ev_arrI hH hk (by omega) (by omega)
      have hin := eI_in h0 h1 g1
      refine W.iast hS.1 hS.2.1 g2 ((hS.2.2.2.2.2.2.1.2.1 50 (by omega) (by omega)).1 (xL h a) (fun j => .int (Int32.ofInt (xA h a j)))) (fun q => by cases q) (by show ¬ (_ < 0 ∨ (arrV _ _ _).slots.size ≤ _); rw [arrV_size]; exact hin) rfl rfl hd fun H1 e1 e2 e3 => ?_
      exact w H1 _ (ev_sI0 hH hk (by omega) (by omega) h0 h1 e1 e2 e3) (t_lL hlo (by simp; exact g0))
    · exact ev_no
theorem ev_bastore (n : Nat) {q : Option Nat} {i z : Int} {K : ev_hs → Option α} (hd : decode (mB M) pc = .ok (.bastore, 1)) (hn : n = pc + 1) (k1 : ∀ g, EvO E M d cv n lo st g (K g)) : EvO E M d cv pc lo (eI z :: eI i :: va_rf q :: st) h (sZ h 51 q i z K) := by
  subst hn
  unfold sZ
  cases q with
  | none => exact ev_no
  | some a =>
    dsimp only
    split
    · rename_i hk
      obtain ⟨hk, h0, h1, hz⟩ := hk
      refine ev_liftW (h' := wA h a i.toNat z) (c1 := 0) (s1 := 0) rfl rfl (fun hS hL hH hlo hc1 hs1 w => ?_) (k1 _)
      obtain ⟨g0, g1, g2⟩ := ev_arrI hH hk (by omega) (by omega)
      have hin := eI_in h0 h1 g1
      refine W.zast hS.1 hS.2.1 g2 ((hS.2.2.2.2.2.2.1.2.1 51 (by omega) (by omega)).1 (xL h a) (fun j => .int (Int32.ofInt (xA h a j)))) (fun q => by cases q) (by show ¬ (_ < 0 ∨ (arrV _ _ _).slots.size ≤ _); rw [arrV_size]; exact hin) rfl rfl hd fun H1 e1 e2 e3 => ?_
      have hnz : narrow .boolean (.int (Int32.ofInt z)) = .int (Int32.ofInt z) := by rcases hz with rfl | rfl <;> decide
      rw [hnz] at e1
      exact w H1 _ (ev_sI0 hH hk (by omega) (by omega) h0 h1 e1 e2 e3) (t_lL hlo (by simp; exact g0))
    · exact ev_no
theorem ev_sQ0 {t a : Nat} {i : Int} {v : Option Nat} {H : Heap} {H1 : Heap} (hH : ev_H E h H) (hk : xK h a = t) (h1 : 52 ≤ t) (h2 : t ≤ 57) (h0 : 0 ≤ i) (hi : i < (xL h a : Int))
    (e1 : H1[a]? = some ((vp_cell (eA E t) (xL h a, .inr (.inr (.inr (.inr (xQ h a)))))).setSlot (Int32.ofInt i).toNatClampNeg (va_rf v))) (e2 : H1.size = H.size) (e3 : ∀ q, q ≠ a → H1[q]? = H[q]?) : ev_H E (wQ h a i.toNat v) H1 ∧ e0 E ≤ a := by
  obtain ⟨g0, g1, g2⟩ := ev_arrQ hH hk h1 h2
  have g0 : e0 E ≤ a := by omega
  rw [eI_cl h0 (by omega), ev_cellQ] at e1
  refine ⟨ev_H_put hH rfl rfl rfl rfl rfl g0 e2 e3 (fun b hb => ⟨fun f => rfl, fun f => rfl, rfl, ?_⟩) (fun _ => ⟨fun c9 hc9 h49 => ?_, fun u1 u2 => ?_, fun u1 u2 => ?_, fun u1 => ?_⟩), g0⟩
  · funext j
    simp [wQ, xQ, up2, hb]
  · have e : xK (wQ h a i.toNat v) a = t := hk
    rw [e] at hc9
    omega
  · have e : xK (wQ h a i.toNat v) a = t := hk
    rw [e] at u2
    omega
  · have e : xK (wQ h a i.toNat v) a = t := hk
    rw [e, e1, ev_hQw]
    rfl
  · have e : xK (wQ h a i.toNat v) a = t := hk
    rw [e] at u1
    omega
-- rows of class e's objects: kind t; ev_AO says that an object of class e may stand there
theorem ev_aastore (n : Nat) {t ec : Nat} {q v : Option Nat} {i : Int} {K : ev_hs → Option α} (hd : decode (mB M) pc = .ok (.aastore, 1)) (ht : 52 ≤ t ∧ t ≤ 57) (ho : ev_AO t ec) (hn : n = pc + 1) (k1 : ∀ g, EvO E M d cv n lo st g (K g)) : EvO E M d cv pc lo (va_rf v :: eI i :: va_rf q :: st) h (sQ h t ec q i v K) := by
  subst hn
  unfold sQ
  cases q with
  | none => exact ev_no
  | some a =>
    dsimp only
    split
    · rename_i hk
      obtain ⟨hk, h0, h1, hv⟩ := hk
      obtain ⟨C0, C, T, N, hty, hc, hasg⟩ := ho
      refine ev_liftW (h' := wQ h a i.toNat v) (c1 := 0) (s1 := 0) rfl rfl (fun hS hL hH hlo hc1 hs1 w => ?_) (k1 _)
      obtain ⟨g0, g1, g2⟩ := ev_arrQ hH hk ht.1 ht.2
      have hin := eI_in h0 h1 g1
      have hKK := hS.2.2.2.2.2.2.1
      have hAT := hKK.2.1 t (by omega) ht.2
      rw [hty] at hAT
      cases v with
      | none =>
        refine va_WaastN (C := C0) hS.1 hS.2.1 g2 (hAT.1 (xL h a) (fun j => va_rf (xQ h a j))) (fun q => by cases q) (by show ¬ (_ < 0 ∨ (arrV _ _ _).slots.size ≤ _); rw [arrV_size]; exact hin) rfl rfl hd fun H1 e1 e2 e3 => ?_
        obtain ⟨w1, w2⟩ := ev_sQ0 (v := none) hH hk ht.1 ht.2 h0 h1 e1 e2 e3
        exact w H1 _ w1 (t_lL hlo (by simp; exact w2))
      | some x =>
        have hx : xK h x = ec + 1 := by simpa [okQ] using hv
        obtain ⟨b0, r, hr, cell, c1, c2, c3, -⟩ := ev_obj hH hx (evC_lt hc)
        obtain ⟨kA, comp, k1, k2, k3, -⟩ := hAT.2
        obtain ⟨hfc, kC, hkC, -⟩ := (hKK.1.1 ec _ hc).2
        obtain ⟨kE, hkE, -⟩ := Vm.findClass_spec k3
        refine W.aast hS.1 hS.2.1 g2 (fun q h => by cases h) (fun h => by cases h) k1 k2 rfl hkE ⟨fun q => hin (Or.inl q), ?_⟩ c1 (fun q h => by rw [c3] at h; cases h) (by rw [c2]; exact hkC) (by rw [c2]; exact hasg _ _ hKK _ _ k3 hfc) rfl rfl hd fun H1 e1 e2 e3 => ?_
        · show _ < (arrV _ _ _).slots.size
          rw [arrV_size]
          exact Nat.not_le.mp fun q => hin (Or.inr q)
        · obtain ⟨w1, w2⟩ := ev_sQ0 (v := some x) hH hk ht.1 ht.2 h0 h1 e1 e2 e3
          exact w H1 _ w1 (t_lL hlo (by simp; exact w2))
    · exact ev_no
-- new objects and arrays
theorem ev_new (n : Nat) {ci N ix : Nat} {C : String} {T : u_T} {K : Option Nat → ev_hs → Option α} (hd : decode (mB M) pc = .ok (.new ix, 3)) (hck : ev_CK ci C T N) (hl : Cond.classLink (mY M).cls ix C ∈ evW) (hi : Cond.instantiable C N ∈ evW) (hini : Cond.initialized C ∈ evW) (hn : n = pc + 3) (k1 : ∀ z g, EvO E M d cv n lo (va_rf z :: st) g (K z g)) : EvO E M d cv pc lo st h (nO h ci N K) := by
  subst hn
  unfold nO
  refine ev_liftW (c1 := 1) (s1 := N) rfl rfl (fun hS hL hH hlo hc1 hs1 w => ?_) (k1 _ _)
  obtain ⟨hc, hin, ⟨ty0, hty0⟩, -⟩ := hck
  have hts := hS.2.2.2.2.2.1
  have hKn := hS.2.2.2.2.2.2.1.1.1 ci _ hc
  have hRo := hS.2.2.2.2.2.2.2
  have hx1 := hH.1
  refine W.newcK hS.1 hS.2.1 hS.2.2.2.1 (hts _ hl) (hts _ hi) (hts _ hini) rfl hd (by have := hRo.2.2.1; omega) (by have := hRo.2.2.2; omega) hKn.2.1 hx1 fun H1 kC hkC e1 z1 o1 => ?_
  refine w H1 _ (ev_H_new (t := ci + 1) hH (by omega) rfl rfl rfl rfl (by rw [z1, hx1]) (fun q hq => o1 q (by omega)) (fun b hb => ⟨by simp [wN, xL, va_up, hb], fun f => ?_, fun f => ?_, rfl, rfl⟩) (by simp [wN, xL, va_up]) ⟨fun c9 hc9 h49 => ?_, fun u1 u2 => ?_, fun u1 u2 => ?_, fun u1 => ?_⟩) hlo
  · simp [wN, xI, hb]
  · simp [wN, xR, hb]
  all_goals have e : xK (wN h ci N) (xZ h) = ci + 1 := (by simp [wN, xK, va_up])
  · rw [e] at hc9
    have : c9 = ci := by omega
    subst this
    refine ⟨_, hc, (u_born ty0 hts hin hKn hkC e1 (fun k hk => (hty0 k hk).1)).to (fun j hj => ?_)⟩
    have hg : (ev_fs (wN h c9 N) c9 (xZ h))[j]? = some (ev_fv (wN h c9 N) c9 (xZ h) j) := ev_fs_get hc hj
    simp only [vp_V, List.getD_eq_getElem?_getD, hg, Option.getD_some]
    obtain ⟨-, q0, q1, q2, h3⟩ := hty0 j hj
    unfold ev_fv evB
    by_cases hb : evF c9 j = 2
    · simp only [hb]
      simp only [wN, xR]
      rcases q2 hb with ⟨nm, e2⟩ | ⟨t, e2⟩ <;> rw [e2] <;> simp [defaultValue, va_rf]
    · have : (evF c9 j == 2) = false := by simp [hb]
      rw [this]
      simp only [wN, xI]
      by_cases hb0 : evF c9 j = 0
      · rw [q0 hb0]
        simp [defaultValue]
      · rw [q1 (by omega)]
        simp [defaultValue]
  all_goals (rw [e] at u1; have := evC_lt hc; omega)
end Rules4
section Rules5
variable {α : Type} {E : ev_E} {M : ev_M} {d : Nat} {cv : α → Option Value × ev_hs} {pc : Nat} {lo : List (Option Value)} {st : List Value} {h : ev_hs} {o : Option α}
theorem ev_nA0 {t N : Nat} {H H1 : Heap} (hH : ev_H E h H) (h1 : 50 ≤ t) (h2 : t ≤ 57) (hN : N < 2147483648) (e1 : t ≤ 51 → H1[xZ h]? = some (vp_cell (eA E t) (N, .inl (fun _ => 0)))) (e1' : 52 ≤ t → H1[xZ h]? = some (vp_cell (eA E t) (N, .inr (.inr (.inr (.inr (fun _ => none))))))) (z1 : H1.size = H.size + 1) (o1 : ∀ q, q < H.size → H1[q]? = H[q]?) : ev_H E (wY h t N) H1 := by
  have e : xK (wY h t N) (xZ h) = t := by simp [wY, xK, va_up]
  have el : xL (wY h t N) (xZ h) = N := by simp [wY, xL, va_up]
  have ea : xA (wY h t N) (xZ h) = fun _ => 0 := by simp [wY, xA, va_up]
  have eq : xQ (wY h t N) (xZ h) = fun _ => none := by simp [wY, xQ, va_up]
  refine ev_H_new (t := t) hH (by omega) rfl rfl rfl rfl z1 o1 (fun b hb => ⟨by simp [wY, xL, va_up, hb], fun f => rfl, fun f => rfl, by simp [wY, xA, va_up, hb], by simp [wY, xQ, va_up, hb]⟩) (by rw [el]; exact hN) ⟨fun c9 hc9 h49 => ?_, fun u1 u2 => ?_, fun u1 u2 => ?_, fun u1 => ?_⟩
  · rw [e] at hc9
    omega
  · rw [e, el, ea]
    rw [e] at u2
    exact e1 u2
  · rw [e, el, eq]
    rw [e] at u1
    exact e1' u1
  · rw [e] at u1
    omega
theorem ev_newarray (n : Nat) {t : Nat} {ty : ArrayType} {z : Int} {K : Option Nat → ev_hs → Option α} (hd : decode (mB M) pc = .ok (.newarray ty, 2)) (ht : 50 ≤ t ∧ t ≤ 51) (hty : newarray.typeOf ty = evTy t) (hw : Cond.arrayClass (newarray.typeOf ty) ∈ evW) (hdv : defaultValue (newarray.typeOf ty) = .int 0) (hcb : componentBytes (newarray.typeOf ty) ≤ 4) (hra : ∀ (U : State) (cA : ClassId), va_RA U cA (evTy t) → U.vm.findClass ("[" ++ (newarray.typeOf ty).toString) = some cA) (hn : n = pc + 2) (k1 : ∀ z g, EvO E M d cv n lo (va_rf z :: st) g (K z g)) : EvO E M d cv pc lo (eI z :: st) h (nA h t z K) := by
  subst hn
  unfold nA
  split
  · rename_i hz
    obtain ⟨z0, z1⟩ := hz
    refine ev_liftW (c1 := 1) (s1 := z.toNat) rfl rfl (fun hS hL hH hlo hc1 hs1 w => ?_) (k1 _ _)
    have hts := hS.2.2.2.2.2.1
    have hRo := hS.2.2.2.2.2.2.2
    have hx1 := hH.1
    have hAT := hS.2.2.2.2.2.2.1.2.1 t (by omega) (by omega)
    refine va_newaK hS.1 hS.2.1 (hts _ hw) rfl hd rfl (eI_nneg z0 (by omega)) (N := z.toNat) (eI_cl z0 (by omega)) (Nat.le_trans (Nat.mul_le_mul_left _ hcb) (by omega)) (by have := hRo.2.2.1; omega) (by have := hRo.2.2.2; omega) hx1 fun H1 cA e1 z1 o1 hAr hNm => ?_
    have hcA : cA = eA E t := Option.some.inj (hNm.symm.trans (hra _ _ hAT.2))
    subst hcA
    refine w H1 _ (ev_nA0 hH ht.1 (by omega) (by omega) (fun _ => ?_) (fun q => by omega) (by rw [z1, hx1]) (fun q hq => o1 q (by omega))) hlo
    rw [e1, vp_cell_i, hdv]
  · exact ev_no
theorem ev_anewarray (n : Nat) {t ix : Nat} {C : String} {z : Int} {K : Option Nat → ev_hs → Option α} (hd : decode (mB M) pc = .ok (.anewarray ix, 3)) (ht : 52 ≤ t ∧ t ≤ 57) (hty : evTy t = .object C) (hl : Cond.classLink (mY M).cls ix C ∈ evW) (hov : ∀ U, ev_X U → va_AO C U) (hn : n = pc + 3) (k1 : ∀ z g, EvO E M d cv n lo (va_rf z :: st) g (K z g)) : EvO E M d cv pc lo (eI z :: st) h (nA h t z K) := by
  subst hn
  unfold nA
  split
  · rename_i hz
    obtain ⟨z0, z1⟩ := hz
    refine ev_liftW (c1 := 1) (s1 := z.toNat) rfl rfl (fun hS hL hH hlo hc1 hs1 w => ?_) (k1 _ _)
    have hts := hS.2.2.2.2.2.1
    have hRo := hS.2.2.2.2.2.2.2
    have hKK := hS.2.2.2.2.2.2.1
    have hx1 := hH.1
    have hAT := hKK.2.1 t (by omega) (by omega)
    rw [hty] at hAT
    have hcl : (Int32.ofInt z).toNatClampNeg = z.toNat := eI_cl z0 (by omega)
    refine W.anew hS.1 hS.2.1 hS.2.2.2.1 (hts _ hl) (va_AO.use (hov _ hKK.2.2.2.2.1)) rfl hd rfl (eI_nneg z0 (by omega)) (by rw [hcl]; omega) (by have := hRo.2.2.1; omega) (by rw [hcl]; have := hRo.2.2.2; omega) fun cA kA comp f1 f2 f3 f4 => ?_
    obtain ⟨-, -, -, -, -, hnm⟩ := hAT.2
    have hcA : cA = eA E t := Option.some.inj (f1.symm.trans hnm)
    subst hcA
    rw [hcl, hx1]
    refine w _ _ (ev_nA0 hH (by omega) ht.2 (by omega) (fun q => by omega) (fun _ => ?_) (by simp) (fun q hq => by rw [Array.getElem?_push, if_neg (Nat.ne_of_lt hq)])) hlo
    rw [← hx1, Array.getElem?_push_size, vp_cell_q]
    exact congrArg some (arrV_new _ _ _)
  · exact ev_no
theorem ev_objInit (n : Nat) {ix : Nat} {q : Option Nat} {j : Nat} (hd : decode (mB M) pc = .ok (.invokespecial ix, 3)) (hl : Cond.methodLink (mY M).cls ix Lib.objectInit ∈ evW) (hi : Cond.instanceMethod Lib.objectInit ∈ evW) (hc : Cond.code Lib.objectInit ⟨#[0xb1]⟩ 1 none ∈ evW) (hd1 : 1 ≤ d) (hsm : ev_sm st j) (hj : j ≤ 8) (hn : n = pc + 3) (k1 : EvO E M d cv n lo st h o) : EvO E M d cv pc lo (va_rf q :: st) h (nN q o) := by
  subst hn
  unfold nN
  cases q with
  | none => exact ev_no
  | some a =>
    refine ev_lift (fun hS hL w => ?_) k1
    have hts := hS.2.2.2.2.2.1
    have hRo := hS.2.2.2.2.2.2.2
    refine W.objInit hS.1 hS.2.1 hS.2.2.2.1 (hts _ hl) (hts _ hi) (hts _ hc) rfl (by rw [hS.2.2.1]; exact hL.1) rfl hd (by have := hRo.1; omega) ?_ w
    have h1 := hRo.2.1
    have h2 : (st.map fun v => v.category).sum ≤ 8 := Nat.le_trans hsm hj
    show 2 * 0 + _ + 12 ≤ _
    omega
theorem ev_getstatic (n : Nat) {ix : Nat} (hd : decode (mB M) pc = .ok (.getstatic ix, 3)) (hl : Cond.fieldLink (mY M).cls ix "java/util/ArrayList" "DEFAULTCAPACITY_EMPTY_ELEMENTDATA" "[Ljava/lang/Object;" ∈ evW) (hn : n = pc + 3) (k1 : EvO E M d cv n lo (va_rf (some (xE h)) :: st) h o) : EvO E M d cv pc lo st h o := by
  subst hn
  refine ev_liftH (fun hS hL hH hlo w => ?_) k1
  obtain ⟨x1, x2, x3, x4, x5, x6, x7⟩ := hH
  rw [x3] at w
  obtain ⟨cf, kf, fi, f, a, cell, h1, h2, h3, h4, h5, h6, h7, h8⟩ := hS.2.2.2.2.2.2.1.2.2.2.2.2.2.2
  refine W.gets hS.1 hS.2.1 hS.2.2.2.1 (hS.2.2.2.2.2.1 _ hl) h1 h2 h3 h4 (by rw [x6 a (by omega)]; exact h5) (fun e => by rw [e] at h6; cases h6) h7 rfl hd w
theorem ev_checkcastO (n : Nat) {ix ci N : Nat} {C : String} {T : u_T} {q : Option Nat} (hd : decode (mB M) pc = .ok (.checkcast ix, 3)) (hc : evC[ci]? = some (C, T, N)) (hl : Cond.classLink (mY M).cls ix C ∈ evW) (hn : n = pc + 3) (k1 : EvO E M d cv n lo (va_rf q :: st) h o) : EvO E M d cv pc lo (va_rf q :: st) h (eCc h ci q o) := by
  subst hn
  unfold eCc
  cases q with
  | none => exact ev_lift (fun hS _ w => lv_castN hS.1 hS.2.1 hd w) k1
  | some a =>
    dsimp only
    split
    · rename_i hk
      refine ev_liftH (fun hS hL hH hlo w => ?_) k1
      have hKK := hS.2.2.2.2.2.2.1
      obtain ⟨b0, r, hr, cell, c1, c2, c3, -⟩ := ev_obj hH hk (evC_lt hc)
      have hcl := (hKK.1.1 ci _ hc).2
      exact va_castS hS.1 hS.2.1 hS.2.2.2.1 (hS.2.2.2.2.2.1 _ hl) hcl ⟨cell, c1, by rw [c3]; rfl, by rw [c2]; exact hcl.1⟩ hd w
    · exact ev_no
theorem ev_checkcastA (n : Nat) {ix t : Nat} {C nm : String} {q : Option Nat} (hd : decode (mB M) pc = .ok (.checkcast ix, 3)) (ht : 52 ≤ t ∧ t ≤ 57) (hty : evTy t = .object C) (hnm : "[" ++ (FieldType.object C).toString = nm) (hl : Cond.classLink (mY M).cls ix nm ∈ evW) (hn : n = pc + 3) (k1 : EvO E M d cv n lo (va_rf q :: st) h o) : EvO E M d cv pc lo (va_rf q :: st) h (eCa h t q o) := by
  subst hn
  unfold eCa
  cases q with
  | none => exact ev_lift (fun hS _ w => lv_castN hS.1 hS.2.1 hd w) k1
  | some a =>
    dsimp only
    split
    · rename_i hk
      refine ev_liftH (fun hS hL hH hlo w => ?_) k1
      have hKK := hS.2.2.2.2.2.2.1
      obtain ⟨g0, g1, g2⟩ := ev_arrQ hH hk ht.1 ht.2
      have hAT := hKK.2.1 t (by omega) (by omega)
      rw [hty] at hAT
      exact va_castA (D := eD E) (cl := evC) hS.1 hS.2.1 hS.2.2.2.1 (hS.2.2.2.2.2.1 _ hl) (va_P1 (q := (a, .inl (eA E t, xL h a, .inr (.inr (.inr (.inr _)))))) g2) 0 rfl (va_nmO hAT.2 hnm) hd w
    · exact ev_no
theorem ev_ldcMirror (n : Nat) {ix : Nat} (hd : decode (mB M) pc = .ok (.ldc ix, 2)) (hl : Cond.classLink (mY M).cls ix "[Ljava/lang/Object;" ∈ evW) (hn : n = pc + 2) (k1 : EvO E M d cv n lo (va_rf (some (xM h)) :: st) h o) : EvO E M d cv pc lo st h o := by
  subst hn
  refine ev_liftH (fun hS hL hH hlo w => ?_) k1
  obtain ⟨x1, x2, x3, x4, x5, x6, x7⟩ := hH
  rw [x4] at w
  exact va_ldcM hS.1 hS.2.1 hS.2.2.2.1 (hS.2.2.2.2.2.1 _ hl) hS.2.2.2.2.2.2.1.2.2.2.2.2.1 hd w
theorem ev_getClass (n : Nat) {ix : Nat} {q : Option Nat} {j : Nat} {K : Option Nat → Option α} (hd : decode (mB M) pc = .ok (.invokevirtual ix, 3)) (hl : Cond.methodLink (mY M).cls ix ⟨"java/lang/Object", "getClass", "()Ljava/lang/Class;"⟩ ∈ evW)
    (hsel : Cond.selects "[Ljava/lang/Object;" ⟨"java/lang/Object", "getClass", "()Ljava/lang/Class;"⟩ ⟨"java/lang/Object", "getClass", "()Ljava/lang/Class;"⟩ ∈ evW) (hins : Cond.instanceMethod ⟨"java/lang/Object", "getClass", "()Ljava/lang/Class;"⟩ ∈ evW) (hnat : Cond.native ⟨"java/lang/Object", "getClass", "()Ljava/lang/Class;"⟩ ∈ evW) (hty : evTy 52 = .object "java/lang/Object") (hd1 : 1 ≤ d) (hsm : ev_sm st j) (hj : j ≤ 8) (hn : n = pc + 3)
    (k1 : ∀ z, EvO E M d cv n lo (va_rf z :: st) h (K z)) : EvO E M d cv pc lo (va_rf q :: st) h (eGc h 52 q K) := by
  subst hn
  unfold eGc
  cases q with
  | none => exact ev_no
  | some a =>
    dsimp only
    split
    · rename_i hk
      refine ev_liftH (fun hS hL hH hlo w => ?_) (k1 _)
      have hts := hS.2.2.2.2.2.1
      have hKK := hS.2.2.2.2.2.2.1
      have hRo := hS.2.2.2.2.2.2.2
      obtain ⟨g0, g1, g2⟩ := ev_arrQ hH hk (by omega) (by omega)
      obtain ⟨x1, x2, x3, x4, x5, x6, x7⟩ := hH
      rw [x4] at w
      have hAT := hKK.2.1 52 (by omega) (by omega)
      rw [hty] at hAT
      refine va_getC (C := "[Ljava/lang/Object;") hS.1 hS.2.1 (by rw [hS.2.2.1]; exact hL.1.symm) hS.2.2.2.1 (hts _ hl) (va_Dc.use hKK.2.2.2.2.2.2.1) (hts _ hsel) (hts _ hins) (hts _ hnat) hKK.2.2.2.2.2.1 ⟨_, g2, rfl, ?_⟩ (by have := hRo.1; omega) ?_ hd w
      · exact va_nmO hAT.2 rfl
      · have h1 := hRo.2.1
        have h2 : (st.map fun v => v.category).sum ≤ 8 := Nat.le_trans hsm hj
        omega
    · exact ev_no
end Rules5
section Copy
variable {p : Program} {l : Launch} {e : Env} {R : Room} {s : State} {m : MethodId} {args : Array Value} {below : List Frame} {meth : Method} {c : Code} {H : Heap} {locs : List Loc} {cells slots : Nat} {Z : State → Prop}
variable {cc : ByteArray} {pc : Nat} {ls : Array Slot} {rest : List Value}
theorem ev_copy0 (hexec : p.tables.exec = Jvm.exec) (hb : c.code = cc) (hml : c.maxLocals = ls.size) {own : String} {index : Nat} (hown : s.vm.findClass own = some m.cls) (hlink : (Cond.methodLink own index arraycopyName).before args s = true) (hnat : (Cond.native arraycopyName).before args s = true) (hstat : (Cond.static arraycopyName).before args s = true) (hini : (Cond.initialized "java/lang/System").before args s = true)
    {a0 a n0 n1 : Nat} {cA : ClassId} {f g : Nat → Option Nat} {E1 C : String} (hc0 : H[a0]? = some (vp_cell cA (n0, .inr (.inr (.inr (.inr f)))))) (hc1 : H[a]? = some (vp_cell cA (n1, .inr (.inr (.inr (.inr g)))))) (hAT : ArrOfT s cA (.object E1)) (hRA : va_RA s cA (.object E1))
    {sp dp n : Int32} (h1 : ¬ sp < 0) (h2 : ¬ dp < 0) (h3 : ¬ n < 0) (h4 : sp.toNatClampNeg + n.toNatClampNeg ≤ n0) (h5 : dp.toNatClampNeg + n.toNatClampNeg ≤ n1)
    (hel : ∀ i : Nat, i < n.toNatClampNeg → ∀ y : Nat, f (sp.toNatClampNeg + i) = some y → ∃ cellV : Cell, H[y]? = some cellV ∧ cellV.vm.isStatics = false ∧ s.vm.findClass C = some cellV.cls) (hasg : ∀ comp c0 : ClassId, s.vm.findClass E1 = some comp → s.vm.findClass C = some c0 → s.vm.assignable c0 comp = true)
    (hframes : 1 ≤ R.frames) (hlocals : (rest.map fun v => v.category).sum + (nativeFrameWords "java/lang/System" "arraycopy" 5 + 11) ≤ R.locals) (hdg : decode cc pc = .ok (.invokestatic index, 3))
    (kk : ∀ (H1 : Heap) (locs1 : List Loc), H1[a]? = some (vp_cell cA (n1, .inr (.inr (.inr (.inr (va_cpy f g sp.toNatClampNeg dp.toNatClampNeg n.toNatClampNeg)))))) → H1.size = H.size → (∀ q, q ≠ a → H1[q]? = H[q]?) → (∀ q ∈ locs1, q ∈ locs ∨ q.base = a) → W p l e R s m args below meth c H1 locs1 cells slots Z (F0 m (pc + 3) ls rest)) :
    W p l e R s m args below meth c H locs cells slots Z (F0 m pc ls (.int n :: .int dp :: .ref a :: .int sp :: .ref a0 :: rest)) := by
  have nn : ∀ z : Int32, ¬ z < 0 → z.toInt = (z.toNatClampNeg : Int) := by
    intro z hz
    have hz0 : (0 : Int) ≤ z.toInt := by
      have := Int32.not_lt.mp hz
      simpa using Int32.le_iff_toInt_le.mp this
    show z.toInt = ((z.toInt.toNat : Nat) : Int)
    omega
  intro T hT X
  obtain ⟨-, k0, hk0, cm0, hkk0⟩ := hAT n0 (fun j => va_rf (f j))
  obtain ⟨kA, comp, r1, r2, r3, -⟩ := hRA
  cases hk0.symm.trans r1
  cases hkk0.symm.trans r2
  have hsz0 : (vp_cell cA (n0, .inr (.inr (.inr (.inr f))))).slots.size = n0 := by rw [vp_cell_q, arrV_size]
  have hsz1 : (vp_cell cA (n1, .inr (.inr (.inr (.inr g))))).slots.size = n1 := by rw [vp_cell_q, arrV_size]
  obtain ⟨vm', X', step⟩ := X.arraycopy hexec hown hlink hnat hstat hini (src := a0) (dst := a) (cs := vp_cell cA (n0, .inr (.inr (.inr (.inr f))))) (cd := vp_cell cA (n1, .inr (.inr (.inr (.inr g))))) (srcPos := sp) (destPos := dp) (n := n) (by rw [hT]; exact hc0) (by rw [hT]; exact hc1)
    (fun _ h => by cases h) (fun _ h => by cases h) (fun h => by cases h) (fun h => by cases h) hk0 hk0 hkk0 hkk0 rfl h1 h2 h3
    (by rw [nn sp h1, nn n h3, hsz0]; omega)
    (by rw [nn dp h2, nn n h3, hsz1]; omega)
    (fun vm₁ hal i hi => by
      have ee : (vp_cell cA (n0, .inr (.inr (.inr (.inr f))))).slots.getD (sp.toNatClampNeg + i) .null = va_rf (f (sp.toNatClampNeg + i)) := by
        show (arrV cA n0 (fun j => va_rf (f j))).slots.getD _ _ = _
        rw [Array.getD_eq_getD_getElem?, arrV_read _ _ (by omega)]
        rfl
      rw [ee]
      cases hy : f (sp.toNatClampNeg + i) with
      | none => exact ⟨rfl, trivial⟩
      | some y =>
        obtain ⟨cellV, g1, g2, g3⟩ := hel i hi y hy
        obtain ⟨kC, hkC, -⟩ := Vm.findClass_spec g3
        obtain ⟨kE, hkE, -⟩ := Vm.findClass_spec r3
        obtain ⟨kC', hkC', -⟩ := hal.2.2 _ _ hkC
        obtain ⟨kE', hkE', -⟩ := hal.2.2 _ _ hkE
        refine ⟨rfl, cellV, (show T.heap[y]? = some cellV by rw [hT]; exact g1), (fun q h => by rw [h] at g2; cases g2), ⟨kC', hkC'⟩, ⟨kE', hkE'⟩, ?_⟩
        show vm₁.assignable _ _ = true
        rw [hal.assignable]
        exact hasg _ _ r3 g3)
    (g := F0 m pc ls (.int n :: .int dp :: .ref a :: .int sp :: .ref a0 :: rest)) rfl (by rw [hml]) (rest := rest) rfl (by rw [hb]; exact hdg) hframes (by show 2 * 0 + _ + _ ≤ _; omega)
  have e1 : copied (vp_cell cA (n0, .inr (.inr (.inr (.inr f))))) (vp_cell cA (n1, .inr (.inr (.inr (.inr g))))) sp dp n = vp_cell cA (n1, .inr (.inr (.inr (.inr (va_cpy f g sp.toNatClampNeg dp.toNatClampNeg n.toNatClampNeg))))) := by
    rw [vp_cell_q, vp_cell_q, vp_cell_q]
    exact va_copied (fun z => va_rf z) cA cA f g h4
  rw [e1] at X' step
  have hl : a < T.heap.size := by
    rw [hT]
    exact (Array.getElem?_eq_some_iff.mp hc1).1
  obtain ⟨t, a1, b1⟩ := kk _ _ (heapAt_setCell_self (s := T.setVm vm') _ hl) (by rw [size_setCell]; exact congrArg _ hT) (fun q hq => by rw [heapAt_setCell_ne _ (Ne.symm hq)]; exact congrArg (fun X : Heap => X[q]?) hT) (fun q hq => by
      rcases List.mem_append.mp hq with h | h
      · exact Or.inl h
      · obtain ⟨z, -, hz⟩ := List.mem_map.mp h
        exact Or.inr (by rw [← hz])) _ rfl X'
  exact ⟨t, step t a1, b1⟩
end Copy
section Rules6
variable {α : Type} {E : ev_E} {M : ev_M} {d : Nat} {cv : α → Option Value × ev_hs} {pc : Nat} {lo : List (Option Value)} {st : List Value} {h : ev_hs} {o : Option α}
theorem ev_arraycopy (nx : Nat) {ec ix j : Nat} {q v : Option Nat} {sp dp n : Int} {K : ev_hs → Option α} (hd : decode (mB M) pc = .ok (.invokestatic ix, 3)) (hl : Cond.methodLink (mY M).cls ix arraycopyName ∈ evW) (hnat : Cond.native arraycopyName ∈ evW) (hstat : Cond.static arraycopyName ∈ evW) (hini : Cond.initialized "java/lang/System" ∈ evW) (ho : ev_AO 52 ec) (hd1 : 1 ≤ d) (hsm : ev_sm st j) (hj : j ≤ 8) (hn : nx = pc + 3)
    (k1 : ∀ g, EvO E M d cv nx lo st g (K g)) : EvO E M d cv pc lo (eI n :: eI dp :: va_rf v :: eI sp :: va_rf q :: st) h (cQ h 52 ec q sp v dp n K) := by
  subst hn
  cases q with
  | none => exact ev_no
  | some a0 =>
  cases v with
  | none => exact ev_no
  | some a =>
    unfold cQ
    dsimp only
    split
    · rename_i hk
      obtain ⟨hka, hkd, h1, h2, h3, h4, h5, h6, h7⟩ := hk
      obtain ⟨C0, C, T, N, hty, hc, hasg⟩ := ho
      refine ev_liftW (h' := wC h a0 sp.toNat a dp.toNat n.toNat) (c1 := 0) (s1 := 0) rfl rfl (fun hS hL hH hlo hc1 hs1 w => ?_) (k1 _)
      have hts := hS.2.2.2.2.2.1
      have hKK := hS.2.2.2.2.2.2.1
      have hRo := hS.2.2.2.2.2.2.2
      obtain ⟨g0, g1, g2⟩ := ev_arrQ hH hka (by omega) (by omega)
      obtain ⟨b0, b1, b2⟩ := ev_arrQ hH hkd (by omega) (by omega)
      have hAT := hKK.2.1 52 (by omega) (by omega)
      rw [hty] at hAT
      have c1 : (Int32.ofInt sp).toNatClampNeg = sp.toNat := eI_cl h1 (by omega)
      have c2 : (Int32.ofInt dp).toNatClampNeg = dp.toNat := eI_cl h2 (by omega)
      have c3 : (Int32.ofInt n).toNatClampNeg = n.toNat := eI_cl h3 (by omega)
      have hba : e0 E ≤ a := by omega
      refine ev_copy0 (C := C) hS.1 hS.2.1 (by rw [hS.2.2.1]; exact hL.1.symm) hS.2.2.2.1 (hts _ hl) (hts _ hnat) (hts _ hstat) (hts _ hini) g2 b2 hAT.1 hAT.2 (eI_nneg h1 (by omega)) (eI_nneg h2 (by omega)) (eI_nneg h3 (by omega)) (by rw [c1, c3]; omega) (by rw [c2, c3]; omega) (fun i hi y hy => ?_) (fun comp c0 => hasg _ _ hKK comp c0) (by have := hRo.1; omega) ?_ hd (fun H1 locs1 e1 e2 e3 e4 => ?_)
      · rw [c3] at hi
        rw [c1] at hy
        have hok : okQ h ec (xQ h a0 (sp.toNat + i)) = true := List.all_eq_true.mp h6 i (List.mem_range.mpr hi)
        rw [hy] at hok
        have hky : xK h y = ec + 1 := by simpa [okQ] using hok
        obtain ⟨-, r, hr, cell, d1, d2, d3, -⟩ := ev_obj hH hky (evC_lt hc)
        exact ⟨cell, d1, by rw [d3]; rfl, by rw [d2]; exact ((hKK.1.1 ec _ hc).2).1⟩
      · have h1 := hRo.2.1
        have h2 : (st.map fun v => v.category).sum ≤ 8 := Nat.le_trans hsm hj
        have h9 : nativeFrameWords "java/lang/System" "arraycopy" 5 ≤ 20 := by decide
        omega
      · rw [c1, c2, c3] at e1
        have ek : ∀ b, xK (wC h a0 sp.toNat a dp.toNat n.toNat) b = xK h b := fun b => rfl
        refine w H1 locs1 (ev_H_put hH rfl rfl rfl rfl rfl hba e2 e3 (fun b hb => ⟨fun f => rfl, fun f => rfl, rfl, ?_⟩) (fun _ => ⟨fun c9 hc9 h49 => ?_, fun u1 u2 => ?_, fun u1 u2 => ?_, fun u1 => ?_⟩)) (fun q hq => ?_)
        · funext j
          simp [wC, xQ, hb]
        · rw [ek, hkd] at hc9
          omega
        · rw [ek, hkd] at u2
          omega
        · have hq : xQ (wC h a0 sp.toNat a dp.toNat n.toNat) a = va_cpy (xQ h a0) (xQ h a) sp.toNat dp.toNat n.toNat := by
            funext j
            simp [va_cpy, wC, xQ]
          rw [ek, hkd, e1, hq]
          rfl
        · rw [ek, hkd] at u1
          omega
        · rcases e4 q hq with h | h
          · exact hlo q h
          · rw [h]
            exact hba
    · exact ev_no
end Rules6
end
section
/-! calls -/
def ev_Pc (E : ev_E) (As : List Value) (h : ev_hs) : Array Value → State → Prop := fun a U => a = As.toArray ∧ ev_H E h U.heap ∧ ev_K E U
def ev_Qc (E : ev_E) (x : Option Value × ev_hs) : Array Value → State → Outcome → State → Prop := fun _ _ oc t => oc = .returned x.1 ∧ ev_H E x.2 t.heap
def ev_ws (M : ev_M) : List Cond := Cond.code (mY M) (mB M) (mL M) (mR M) :: evW
def ev_rm (d : Nat) (h : ev_hs) (x : Option Value × ev_hs) : Room := { frames := d, cells := xC x.2 - xC h, slots := xS x.2 - xS h, locals := 40 * d }
theorem ev_args {As : List Value} (hc : ∀ v ∈ As, v.category = 1) {i : Nat} {v : Value} (hi : As[i]? = some v) (k : Nat) : (k + i, v) ∈ lv_args k As := by
  induction As generalizing i k with
  | nil => simp at hi
  | cons w r ih =>
    have hw : w.category = 1 := hc w List.mem_cons_self
    unfold lv_args
    cases i with
    | zero => simp at hi; subst hi; exact List.mem_cons_self
    | succ i =>
      simp only [List.getElem?_cons_succ] at hi
      rw [if_neg (by omega)]
      have := ih (fun v hv => hc v (List.mem_cons_of_mem _ hv)) hi (k + 1)
      rw [show k + 1 + i = k + (i + 1) by omega] at this
      exact List.mem_cons_of_mem _ this
theorem ev_sl {As : List Value} (hc : ∀ v ∈ As, v.category = 1) : (lg_sl As).length = As.length := by
  induction As with
  | nil => rfl
  | cons w r ih =>
    have hw : w.category = 1 := hc w List.mem_cons_self
    have h2 := ih (fun v hv => hc v (List.mem_cons_of_mem _ hv))
    unfold lg_sl at *
    simp only [List.flatMap_cons, hw, List.length_append, h2]
    simp
    omega
theorem ev_Zmoved {E : ev_E} {u U : State} (hW : u.WarmedH U.vm) (hK : ev_K E u) : ev_K E U := by
  obtain ⟨k1, k2, k3, k4, k5, k6, k7, k8⟩ := hK
  have hal := hW.alike
  exact ⟨k1.moved hal, fun t h1 h2 => ⟨arrOfT_moved hal (k2 t h1 h2).1, (k2 t h1 h2).2.moved hal⟩, State.isArrayOf_alike hal k3, k4, ev_Xmoved hW k5, k6.moved hal, k7.moved hal, k8.moved hal⟩
theorem ev_met {E : ev_E} {M : ev_M} {d k : Nat} {As : List Value} {lo : List (Option Value)} {h : ev_hs} {x : Option Value × ev_hs} (hy : plainFor (mY M) = true) (hc : ∀ v ∈ As, v.category = 1) (hlen : As.length ≤ mL M) (hlo : lo = As.map some ++ List.replicate k none) (hE : Ev E M d 0 lo [] h x) :
    Met (eLa E) (mY M) (ev_ws M) (ev_rm d h x) (ev_Pc E As h) (ev_Qc E x) (xC x.2 - xC h) (xS x.2 - xS h) (fun q => e0 E ≤ q) := by
  refine va_MetF (cc := mB M) (maxL := mL M) (ret := mR M) hy rfl ?_
  intro p e s m args below meth c s₁ B hml hv
  obtain ⟨rfl, hH, hK⟩ := hv
  have hts := atoms_spec (ws := ev_ws M) B.pre
  have hown : s.vm.findClass (mY M).cls = some m.cls := findClass_of_methodNamed B.named
  have hnm : meth.name = (mY M).name := (name_of_methodNamed B.named B.method).1
  have hl := lv_entry As (n := mL M) (by rw [ev_sl hc]; exact hlen)
  rw [lg_entry_eq]
  generalize (lg_sl As ++ List.replicate (mL M - (lg_sl As).length) Slot.unset).toArray = ls at hl ⊢
  refine hE.2.2 p e _ s m _ below meth c _ (xC x.2 - xC h) (xS x.2 - xS h) ⟨B.exec, B.bytes, hml, hown, hnm, fun w hw => hts w (List.mem_cons_of_mem _ hw), hK, ⟨Nat.le_refl _, Nat.le_refl _, Nat.le_refl _, Nat.le_refl _⟩⟩ ?_ s.heap [] 0 0 ls hH (fun q hq => by cases hq) ⟨hl.1, hl.2.1, fun i v hi => ?_⟩ (Nat.le_of_eq (Nat.zero_add _)) (Nat.le_of_eq (Nat.zero_add _))
  · intro H locs pc ls' st hH' hl' hV
    rcases hV with ⟨hd, v, ty, e1, rfl, hr, hn⟩ | ⟨hd, r, rt, e1, rfl, hr, hrt⟩ | ⟨hd, e1, rfl, hr⟩
    · exact W.zret B.exec B.bytes (B.returns.trans hr) hn (fun t ht hW => ⟨by rw [e1], by rw [ht]; exact hH'⟩) hl' hd (hlocks := B.notSynchronized)
    · exact W.aret B.exec B.bytes (B.returns.trans hr) hrt (by cases r with | none => exact Or.inl rfl | some a => exact Or.inr ⟨a, rfl⟩) (fun t ht hW => ⟨by rw [e1], by rw [ht]; exact hH'⟩) hl' hd (hlocks := B.notSynchronized)
    · exact W.vret B.exec B.bytes (B.returns.trans hr) (fun t ht hW => ⟨by rw [e1], by rw [ht]; exact hH'⟩) hl' hd (hlocks := B.notSynchronized)
  · have hA : As[i]? = some v := by
      subst hlo
      by_cases hi2 : i < As.length
      · rw [List.getElem?_append_left (by simpa using hi2), List.getElem?_map] at hi
        cases hw : As[i]? with
        | none => rw [hw] at hi; cases hi
        | some w => rw [hw] at hi; simp at hi; rw [hi]
      · rw [List.getElem?_append_right (by simpa using hi2)] at hi
        have := List.eq_of_mem_replicate (List.mem_of_getElem? hi)
        cases this
    have := ev_args hc hA 0
    rw [Nat.zero_add] at this
    exact ⟨hl.2.2 _ this, hc v (List.mem_of_getElem? hA)⟩
theorem ev_good {M : ev_M} (hc : Cond.code (mY M) (mB M) (mL M) (mR M) ∈ evW) : GoodIn evW (ev_ws M) := by
  intro w hw
  rcases List.mem_cons.mp hw with rfl | hw
  · exact ⟨hc, Or.inl rfl⟩
  · exact ⟨hw, evW_good w hw⟩
-- the words of a call: virtual (the receiver of class ci), static, a constructor
def ev_CB (M' : ev_M) (n : Nat) : Prop := Cond.code (mY M') (mB M') (mL M') (mR M') ∈ evW ∧ Cond.initialized (mY M').cls ∈ evW ∧ ((mY M').cls ≠ "java/lang/invoke/MethodHandle" ∧ (mY M').cls ≠ "java/lang/invoke/VarHandle" ∧ (parseMethodDescriptor (mY M').desc).map (fun d => d.parameters.length) = some n) ∧ mL M' ≤ 21 ∧ plainFor (mY M') = true
def ev_CV (own : String) (ix ci : Nat) (M' : ev_M) (n : Nat) : Prop := ev_CB M' n ∧ Cond.methodLink own ix (mY M') ∈ evW ∧ Cond.instanceMethod (mY M') ∈ evW ∧ Cond.selects (mY M').cls (mY M') (mY M') ∈ evW ∧ ∃ (T : u_T) (N : Nat), evC[ci]? = some ((mY M').cls, T, N)
def ev_CI (own : String) (ix : Nat) (M' : ev_M) (n : Nat) : Prop := ev_CB M' n ∧ Cond.methodLink own ix (mY M') ∈ evW ∧ Cond.instanceMethod (mY M') ∈ evW ∧ (mY M').name = "<init>" ∧ mR M' = none
def ev_CS (own : String) (ix : Nat) (M' : ev_M) (n : Nat) : Prop := ev_CB M' n ∧ Cond.methodLink own ix (mY M') ∈ evW ∧ Cond.static (mY M') ∈ evW
def ev_CN (own : String) (ix : Nat) (M' : ev_M) (n : Nat) : Prop := ev_CB M' n ∧ (∃ host, ∀ U, ev_X U → va_Nw (.methodLinkNest own ix (mY M') host) U) ∧ Cond.static (mY M') ∈ evW
section Call0
variable {p : Program} {e : Env} {R : Room} {s : State} {m : MethodId} {args : Array Value} {below : List Frame} {meth : Method} {c : Code} {H : Heap} {locs : List Loc} {cells slots : Nat} {Z : State → Prop}
variable {pc : Nat} {ls : Array Slot} {st st0 : List Value} {E : ev_E} {M M' : ev_M} {d d' mc ms n ix j k : Nat} {h : ev_hs} {x : Option Value × ev_hs} {As : List Value} {lo' : List (Option Value)}
theorem ev_runW {mc1 ms1 : Nat} {a : Array Value} (hr : va_Run p (eLa E) e R s m args below meth c H locs cells slots mc1 ms1 (F0 m pc ls st0) st (ev_Qc E x a) (fun q => e0 E ≤ q)) (hl : ∀ q ∈ locs, e0 E ≤ q.base)
    (kk : ∀ (H1 : Heap) (locs1 : List Loc), ev_H E x.2 H1 → (∀ q ∈ locs1, e0 E ≤ q.base) → W p (eLa E) e R s m args below meth c H1 locs1 (cells + mc1) (slots + ms1) Z (F0 m (pc + 3) ls (x.1.toList ++ st))) : W p (eLa E) e R s m args below meth c H locs cells slots Z (F0 m pc ls st0) := by
  intro T hT X
  obtain ⟨v, st₀, t, T', L, h0, X', hL, e1, e2, ⟨hv, hh⟩, stp⟩ := hr T hT X
  cases hv
  obtain ⟨t2, a1, b1⟩ := kk T'.heap (locs ++ L) (by rw [e1]; exact hh) (t_lL hl hL) T' rfl X'
  exact ⟨t2, stp t2 a1, b1⟩
theorem ev_blind : FrameBlind (ev_Pc E As h) := fun _ _ _ _ q => q
theorem ev_fixC (hS : ev_S E M d mc ms p R s m args meth c) (hL : ls.size = mL M) : CallFix p m c (mB M) (mL M) s args evW (mY M).cls := ⟨hS.1, hS.2.1, hS.2.2.1, hS.2.2.2.1, hS.2.2.2.2.2.1⟩
theorem ev_room (hRo : ev_Ro d mc ms R) (hd : d' + 1 ≤ d) (hm : mL M' ≤ 21) : (ev_rm d' h x).frames + 1 ≤ R.frames ∧ 8 + (mL M' + 11) + (ev_rm d' h x).locals ≤ R.locals := by
  obtain ⟨r1, r2, -, -⟩ := hRo
  show d' + 1 ≤ R.frames ∧ 8 + (mL M' + 11) + 40 * d' ≤ R.locals
  omega
theorem ev_runV {ci b : Nat} (hS : ev_S E M d mc ms p R s m args meth c) (hLs : ls.size = mL M) (hH : ev_H E h H) (hw : ev_CV (mY M).cls ix ci M' n) (hk : xK h b = ci + 1) (hd' : d' + 1 ≤ d) (hc : ∀ v ∈ As, v.category = 1) (hn : As.length = n) (hlen : n + 1 ≤ mL M') (hlo : lo' = (Value.ref b :: As).map some ++ List.replicate k none) (hE : Ev E M' d' 0 lo' [] h x)
    (hst : st0 = As.reverse ++ .ref b :: st) (hsm : ev_sm st j) (hj : j ≤ 8) (hdg : decode (mB M) pc = .ok (.invokevirtual ix, 3)) (hcl : cells + (xC x.2 - xC h) ≤ mc) (hsl : slots + (xS x.2 - xS h) ≤ ms) :
    va_Run p (eLa E) e R s m args below meth c H locs cells slots (xC x.2 - xC h) (xS x.2 - xS h) (F0 m pc ls st0) st (ev_Qc E x (Value.ref b :: As).toArray) (fun q => e0 E ≤ q) := by
  obtain ⟨⟨w1, w2, w3, w4, w5⟩, w6, w7, w8, T, N, w9⟩ := hw
  have hts := hS.2.2.2.2.2.1
  have hKK := hS.2.2.2.2.2.2.1
  have hRo := hS.2.2.2.2.2.2.2
  obtain ⟨b0, r, hr, cell, c1, c2, c3, -⟩ := ev_obj hH hk (evC_lt w9)
  refine va_runV (nL := mL M) (C := (mY M').cls) (ev_fixC hS hLs) (ev_met (k := k) w5 (fun v hv => ?_) (by simp; omega) hlo hE) ⟨callB_of n hts (ev_good w1) rfl rfl rfl (hts _ w2) (hts _ w6) w3 (ev_room hRo hd' w4), hts _ w7, hts _ w8⟩ ⟨ev_blind, ⟨cell, c1, by rw [c3]; rfl, by rw [c2]; exact ((hKK.1.1 ci _ w9).2).1⟩, fun U hU hW => ⟨rfl, by rw [hU]; exact hH, ev_Zmoved hW hKK⟩⟩ rfl hn hLs hst (Nat.le_trans (by show 2 * 0 + _ ≤ j; rw [Nat.mul_zero, Nat.zero_add]; exact hsm) hj) hdg ⟨by have := hRo.2.2.1; omega, by have := hRo.2.2.2; omega⟩
  rcases List.mem_cons.mp hv with rfl | hv
  · rfl
  · exact hc v hv
theorem ev_runI {b : Nat} (hS : ev_S E M d mc ms p R s m args meth c) (hLs : ls.size = mL M) (hH : ev_H E h H) (hw : ev_CI (mY M).cls ix M' n) (hd' : d' + 1 ≤ d) (hc : ∀ v ∈ As, v.category = 1) (hn : As.length = n) (hlen : n + 1 ≤ mL M') (hlo : lo' = (Value.ref b :: As).map some ++ List.replicate k none) (hE : Ev E M' d' 0 lo' [] h x)
    (hst : st0 = As.reverse ++ .ref b :: st) (hsm : ev_sm st j) (hj : j ≤ 8) (hdg : decode (mB M) pc = .ok (.invokespecial ix, 3)) (hcl : cells + (xC x.2 - xC h) ≤ mc) (hsl : slots + (xS x.2 - xS h) ≤ ms) :
    va_Run p (eLa E) e R s m args below meth c H locs cells slots (xC x.2 - xC h) (xS x.2 - xS h) (F0 m pc ls st0) st (ev_Qc E x (Value.ref b :: As).toArray) (fun q => e0 E ≤ q) := by
  obtain ⟨⟨w1, w2, w3, w4, w5⟩, w6, w7, w8, w9⟩ := hw
  have hts := hS.2.2.2.2.2.1
  have hKK := hS.2.2.2.2.2.2.1
  have hRo := hS.2.2.2.2.2.2.2
  have hM := ev_met (k := k) w5 (As := Value.ref b :: As) (fun v hv => by
    rcases List.mem_cons.mp hv with rfl | hv
    · rfl
    · exact hc v hv) (by simp; omega) hlo hE
  have hcb := callB_of n hts (ev_good w1) rfl rfl rfl (hts _ w2) (hts _ w6) w3 (ev_room (h := h) (x := x) hRo hd' w4)
  rw [w9] at hcb
  exact va_runI (nL := mL M) (ev_fixC hS hLs) hM ⟨hcb, w8, hts _ w7⟩ ⟨ev_blind, fun U hU hW => ⟨rfl, by rw [hU]; exact hH, ev_Zmoved hW hKK⟩⟩ rfl hn hLs hst (Nat.le_trans (by show 2 * 0 + _ ≤ j; rw [Nat.mul_zero, Nat.zero_add]; exact hsm) hj) hdg ⟨by have := hRo.2.2.1; omega, by have := hRo.2.2.2; omega⟩
theorem ev_runS (hS : ev_S E M d mc ms p R s m args meth c) (hLs : ls.size = mL M) (hH : ev_H E h H) (hw : ev_CS (mY M).cls ix M' n) (hd' : d' + 1 ≤ d) (hc : ∀ v ∈ As, v.category = 1) (hn : As.length = n) (hlen : n ≤ mL M') (hlo : lo' = As.map some ++ List.replicate k none) (hE : Ev E M' d' 0 lo' [] h x)
    (hst : st0 = As.reverse ++ st) (hsm : ev_sm st j) (hj : j ≤ 8) (hdg : decode (mB M) pc = .ok (.invokestatic ix, 3)) (hcl : cells + (xC x.2 - xC h) ≤ mc) (hsl : slots + (xS x.2 - xS h) ≤ ms) :
    va_Run p (eLa E) e R s m args below meth c H locs cells slots (xC x.2 - xC h) (xS x.2 - xS h) (F0 m pc ls st0) st (ev_Qc E x As.toArray) (fun q => e0 E ≤ q) := by
  obtain ⟨⟨w1, w2, w3, w4, w5⟩, w6, w7⟩ := hw
  have hts := hS.2.2.2.2.2.1
  have hKK := hS.2.2.2.2.2.2.1
  have hRo := hS.2.2.2.2.2.2.2
  exact va_runS (nL := mL M) (ev_fixC hS hLs) (ev_met (k := k) w5 hc (by omega) hlo hE) ⟨callB_of n hts (ev_good w1) rfl rfl rfl (hts _ w2) (hts _ w6) w3 (ev_room hRo hd' w4), hts _ w7⟩ ⟨ev_blind, fun U hU hW => ⟨rfl, by rw [hU]; exact hH, ev_Zmoved hW hKK⟩⟩ rfl hn hLs hst (Nat.le_trans (by show 2 * 0 + _ ≤ j; rw [Nat.mul_zero, Nat.zero_add]; exact hsm) hj) hdg ⟨by have := hRo.2.2.1; omega, by have := hRo.2.2.2; omega⟩
theorem ev_runN (hS : ev_S E M d mc ms p R s m args meth c) (hLs : ls.size = mL M) (hH : ev_H E h H) (hw : ev_CN (mY M).cls ix M' n) (hd' : d' + 1 ≤ d) (hc : ∀ v ∈ As, v.category = 1) (hn : As.length = n) (hlen : n ≤ mL M') (hlo : lo' = As.map some ++ List.replicate k none) (hE : Ev E M' d' 0 lo' [] h x)
    (hst : st0 = As.reverse ++ st) (hsm : ev_sm st j) (hj : j ≤ 8) (hdg : decode (mB M) pc = .ok (.invokestatic ix, 3)) (hcl : cells + (xC x.2 - xC h) ≤ mc) (hsl : slots + (xS x.2 - xS h) ≤ ms) :
    va_Run p (eLa E) e R s m args below meth c H locs cells slots (xC x.2 - xC h) (xS x.2 - xS h) (F0 m pc ls st0) st (ev_Qc E x As.toArray) (fun q => e0 E ≤ q) := by
  obtain ⟨⟨w1, w2, w3, w4, w5⟩, ⟨host, w6⟩, w7⟩ := hw
  have hts := hS.2.2.2.2.2.1
  have hKK := hS.2.2.2.2.2.2.1
  have hRo := hS.2.2.2.2.2.2.2
  exact va_runSN (nL := mL M) (ev_fixC hS hLs) (ev_met (k := k) w5 hc (by omega) hlo hE) ⟨va_cnB n hts (ev_good w1) rfl rfl rfl (w6 _ hKK.2.2.2.2.1) (hts _ w2) w3 (ev_room hRo hd' w4), hts _ w7, trivial⟩ ⟨ev_blind, fun U hU hW => ⟨rfl, by rw [hU]; exact hH, ev_Zmoved hW hKK⟩⟩ rfl hn hLs hst (Nat.le_trans (by show 2 * 0 + _ ≤ j; rw [Nat.mul_zero, Nat.zero_add]; exact hsm) hj) hdg ⟨by have := hRo.2.2.1; omega, by have := hRo.2.2.2; omega⟩
end Call0
-- a call, then what is behind it
theorem ev_callE {α : Type} {E : ev_E} {M : ev_M} {d : Nat} {cv : α → Option Value × ev_hs} {pc : Nat} {lo : List (Option Value)} {st st0 : List Value} {h : ev_hs} {o : Option α} {x : Option Value × ev_hs} (hm : xC h ≤ xC x.2 ∧ xS h ≤ xS x.2)
    (run : ∀ {p : Program} {e : Env} {R : Room} {s : State} {m : MethodId} {args : Array Value} {below : List Frame} {meth : Method} {c : Code} {H : Heap} {locs : List Loc} {cells slots : Nat} {ls : Array Slot} {mc ms : Nat},
      ev_S E M d mc ms p R s m args meth c → ls.size = mL M → ev_H E h H → cells + (xC x.2 - xC h) ≤ mc → slots + (xS x.2 - xS h) ≤ ms →
      ∃ a, va_Run p (eLa E) e R s m args below meth c H locs cells slots (xC x.2 - xC h) (xS x.2 - xS h) (F0 m pc ls st0) st (ev_Qc E x a) (fun q => e0 E ≤ q))
    (k1 : EvO E M d cv (pc + 3) lo (x.1.toList ++ st) x.2 o) : EvO E M d cv pc lo st0 h o := by
  intro y hy
  obtain ⟨h1, h2, h3⟩ := k1 y hy
  refine ⟨by omega, by omega, fun p e R s m args below meth c Z mc ms hS hT H locs cells slots ls hH hl hL hc hs => ?_⟩
  obtain ⟨a, hr⟩ := run (p := p) (e := e) (below := below) (locs := locs) (cells := cells) (slots := slots) hS hL.1 hH (by omega) (by omega)
  exact ev_runW hr hl (fun H1 locs1 hH1 hl1 => h3 p e R s m args below meth c Z mc ms hS hT H1 locs1 (cells + (xC x.2 - xC h)) (slots + (xS x.2 - xS h)) ls hH1 hl1 hL (by omega) (by omega))
section Calls
variable {α : Type} {E : ev_E} {M M' : ev_M} {d d' ix j kk : Nat} {cv : α → Option Value × ev_hs} {pc : Nat} {lo : List (Option Value)} {st : List Value} {h : ev_hs}
theorem ev_ci0V (nx : Nat) {q : Option Nat} {o' : Option (ev_hs)} {K : ev_hs → Option α} (hd : decode (mB M) pc = .ok (.invokespecial ix, 3)) (hw : ev_CI (mY M).cls ix M' 0) (hd' : d' + 1 ≤ d) (hlen : 1 ≤ mL M')  (hsm : ev_sm st j) (hj : j ≤ 8) (hn : nx = pc + 3) (hcal : EvO E M' d' cvV 0 (some (va_rf q) :: List.replicate kk none) [] h o') (k1 : ∀ g, EvO E M d cv nx lo st g (K g)) : EvO E M d cv pc lo (va_rf q :: st) h (nN q (bV o' K)) := by
  subst hn
  unfold nN
  cases q with
  | none => exact ev_no
  | some b =>
  dsimp only
  unfold bV
  cases ho : o' with
  | none => exact ev_no
  | some y =>
    have hm := hcal y ho
    exact ev_callE (x := cvV y) ⟨hm.1, hm.2.1⟩ (fun hS hLs hH hcl hsl => ⟨_, ev_runI (As := []) (k := kk) hS hLs hH hw hd' (fun v hv => by cases hv) rfl hlen rfl (hcal y ho) rfl hsm hj hd hcl hsl⟩) (k1 y)
theorem ev_ci1V (nx : Nat) {q : Option Nat} {v1 : Value} {o' : Option (ev_hs)} {K : ev_hs → Option α} (hd : decode (mB M) pc = .ok (.invokespecial ix, 3)) (hw : ev_CI (mY M).cls ix M' 1) (hd' : d' + 1 ≤ d) (hlen : 2 ≤ mL M') (h1 : v1.category = 1) (hsm : ev_sm st j) (hj : j ≤ 8) (hn : nx = pc + 3) (hcal : EvO E M' d' cvV 0 (some (va_rf q) :: some v1 :: List.replicate kk none) [] h o') (k1 : ∀ g, EvO E M d cv nx lo st g (K g)) : EvO E M d cv pc lo (v1 :: va_rf q :: st) h (nN q (bV o' K)) := by
  subst hn
  unfold nN
  cases q with
  | none => exact ev_no
  | some b =>
  dsimp only
  unfold bV
  cases ho : o' with
  | none => exact ev_no
  | some y =>
    have hm := hcal y ho
    exact ev_callE (x := cvV y) ⟨hm.1, hm.2.1⟩ (fun hS hLs hH hcl hsl => ⟨_, ev_runI (As := [v1]) (k := kk) hS hLs hH hw hd' (fun v hv => by simp only [List.mem_cons, List.not_mem_nil, or_false] at hv; rcases hv with rfl <;> assumption) rfl hlen rfl (hcal y ho) rfl hsm hj hd hcl hsl⟩) (k1 y)
theorem ev_ci2V (nx : Nat) {q : Option Nat} {v1 v2 : Value} {o' : Option (ev_hs)} {K : ev_hs → Option α} (hd : decode (mB M) pc = .ok (.invokespecial ix, 3)) (hw : ev_CI (mY M).cls ix M' 2) (hd' : d' + 1 ≤ d) (hlen : 3 ≤ mL M') (h1 : v1.category = 1) (h2 : v2.category = 1) (hsm : ev_sm st j) (hj : j ≤ 8) (hn : nx = pc + 3) (hcal : EvO E M' d' cvV 0 (some (va_rf q) :: some v1 :: some v2 :: List.replicate kk none) [] h o') (k1 : ∀ g, EvO E M d cv nx lo st g (K g)) : EvO E M d cv pc lo (v2 :: v1 :: va_rf q :: st) h (nN q (bV o' K)) := by
  subst hn
  unfold nN
  cases q with
  | none => exact ev_no
  | some b =>
  dsimp only
  unfold bV
  cases ho : o' with
  | none => exact ev_no
  | some y =>
    have hm := hcal y ho
    exact ev_callE (x := cvV y) ⟨hm.1, hm.2.1⟩ (fun hS hLs hH hcl hsl => ⟨_, ev_runI (As := [v1, v2]) (k := kk) hS hLs hH hw hd' (fun v hv => by simp only [List.mem_cons, List.not_mem_nil, or_false] at hv; rcases hv with rfl | rfl <;> assumption) rfl hlen rfl (hcal y ho) rfl hsm hj hd hcl hsl⟩) (k1 y)
theorem ev_ci3V (nx : Nat) {q : Option Nat} {v1 v2 v3 : Value} {o' : Option (ev_hs)} {K : ev_hs → Option α} (hd : decode (mB M) pc = .ok (.invokespecial ix, 3)) (hw : ev_CI (mY M).cls ix M' 3) (hd' : d' + 1 ≤ d) (hlen : 4 ≤ mL M') (h1 : v1.category = 1) (h2 : v2.category = 1) (h3 : v3.category = 1) (hsm : ev_sm st j) (hj : j ≤ 8) (hn : nx = pc + 3) (hcal : EvO E M' d' cvV 0 (some (va_rf q) :: some v1 :: some v2 :: some v3 :: List.replicate kk none) [] h o') (k1 : ∀ g, EvO E M d cv nx lo st g (K g)) : EvO E M d cv pc lo (v3 :: v2 :: v1 :: va_rf q :: st) h (nN q (bV o' K)) := by
  subst hn
  unfold nN
  cases q with
  | none => exact ev_no
  | some b =>
  dsimp only
  unfold bV
  cases ho : o' with
  | none => exact ev_no
  | some y =>
    have hm := hcal y ho
    exact ev_callE (x := cvV y) ⟨hm.1, hm.2.1⟩ (fun hS hLs hH hcl hsl => ⟨_, ev_runI (As := [v1, v2, v3]) (k := kk) hS hLs hH hw hd' (fun v hv => by simp only [List.mem_cons, List.not_mem_nil, or_false] at hv; rcases hv with rfl | rfl | rfl <;> assumption) rfl hlen rfl (hcal y ho) rfl hsm hj hd hcl hsl⟩) (k1 y)
theorem ev_ci7V (nx : Nat) {q : Option Nat} {v1 v2 v3 v4 v5 v6 v7 : Value} {o' : Option (ev_hs)} {K : ev_hs → Option α} (hd : decode (mB M) pc = .ok (.invokespecial ix, 3)) (hw : ev_CI (mY M).cls ix M' 7) (hd' : d' + 1 ≤ d) (hlen : 8 ≤ mL M') (h1 : v1.category = 1) (h2 : v2.category = 1) (h3 : v3.category = 1) (h4 : v4.category = 1) (h5 : v5.category = 1) (h6 : v6.category = 1) (h7 : v7.category = 1) (hsm : ev_sm st j) (hj : j ≤ 8) (hn : nx = pc + 3) (hcal : EvO E M' d' cvV 0 (some (va_rf q) :: some v1 :: some v2 :: some v3 :: some v4 :: some v5 :: some v6 :: some v7 :: List.replicate kk none) [] h o') (k1 : ∀ g, EvO E M d cv nx lo st g (K g)) : EvO E M d cv pc lo (v7 :: v6 :: v5 :: v4 :: v3 :: v2 :: v1 :: va_rf q :: st) h (nN q (bV o' K)) := by
  subst hn
  unfold nN
  cases q with
  | none => exact ev_no
  | some b =>
  dsimp only
  unfold bV
  cases ho : o' with
  | none => exact ev_no
  | some y =>
    have hm := hcal y ho
    exact ev_callE (x := cvV y) ⟨hm.1, hm.2.1⟩ (fun hS hLs hH hcl hsl => ⟨_, ev_runI (As := [v1, v2, v3, v4, v5, v6, v7]) (k := kk) hS hLs hH hw hd' (fun v hv => by simp only [List.mem_cons, List.not_mem_nil, or_false] at hv; rcases hv with rfl | rfl | rfl | rfl | rfl | rfl | rfl <;> assumption) rfl hlen rfl (hcal y ho) rfl hsm hj hd hcl hsl⟩) (k1 y)
theorem ev_cn1I (nx : Nat) {v1 : Value} {o' : Option (Int × ev_hs)} {K : Int → ev_hs → Option α} (hd : decode (mB M) pc = .ok (.invokestatic ix, 3)) (hw : ev_CN (mY M).cls ix M' 1) (hd' : d' + 1 ≤ d) (hlen : 1 ≤ mL M') (h1 : v1.category = 1) (hsm : ev_sm st j) (hj : j ≤ 8) (hn : nx = pc + 3) (hcal : EvO E M' d' cvI 0 (some v1 :: List.replicate kk none) [] h o') (k1 : ∀ z g, EvO E M d cv nx lo (eI z :: st) g (K z g)) : EvO E M d cv pc lo (v1 :: st) h (bI o' K) := by
  subst hn
  unfold bI
  cases ho : o' with
  | none => exact ev_no
  | some y =>
    have hm := hcal y ho
    exact ev_callE (x := cvI y) ⟨hm.1, hm.2.1⟩ (fun hS hLs hH hcl hsl => ⟨_, ev_runN (As := [v1]) (k := kk) hS hLs hH hw hd' (fun v hv => by simp only [List.mem_cons, List.not_mem_nil, or_false] at hv; rcases hv with rfl <;> assumption) rfl hlen rfl (hcal y ho) rfl hsm hj hd hcl hsl⟩) (k1 y.1 y.2)
theorem ev_cs1I (nx : Nat) {v1 : Value} {o' : Option (Int × ev_hs)} {K : Int → ev_hs → Option α} (hd : decode (mB M) pc = .ok (.invokestatic ix, 3)) (hw : ev_CS (mY M).cls ix M' 1) (hd' : d' + 1 ≤ d) (hlen : 1 ≤ mL M') (h1 : v1.category = 1) (hsm : ev_sm st j) (hj : j ≤ 8) (hn : nx = pc + 3) (hcal : EvO E M' d' cvI 0 (some v1 :: List.replicate kk none) [] h o') (k1 : ∀ z g, EvO E M d cv nx lo (eI z :: st) g (K z g)) : EvO E M d cv pc lo (v1 :: st) h (bI o' K) := by
  subst hn
  unfold bI
  cases ho : o' with
  | none => exact ev_no
  | some y =>
    have hm := hcal y ho
    exact ev_callE (x := cvI y) ⟨hm.1, hm.2.1⟩ (fun hS hLs hH hcl hsl => ⟨_, ev_runS (As := [v1]) (k := kk) hS hLs hH hw hd' (fun v hv => by simp only [List.mem_cons, List.not_mem_nil, or_false] at hv; rcases hv with rfl <;> assumption) rfl hlen rfl (hcal y ho) rfl hsm hj hd hcl hsl⟩) (k1 y.1 y.2)
theorem ev_cs2I (nx : Nat) {v1 v2 : Value} {o' : Option (Int × ev_hs)} {K : Int → ev_hs → Option α} (hd : decode (mB M) pc = .ok (.invokestatic ix, 3)) (hw : ev_CS (mY M).cls ix M' 2) (hd' : d' + 1 ≤ d) (hlen : 2 ≤ mL M') (h1 : v1.category = 1) (h2 : v2.category = 1) (hsm : ev_sm st j) (hj : j ≤ 8) (hn : nx = pc + 3) (hcal : EvO E M' d' cvI 0 (some v1 :: some v2 :: List.replicate kk none) [] h o') (k1 : ∀ z g, EvO E M d cv nx lo (eI z :: st) g (K z g)) : EvO E M d cv pc lo (v2 :: v1 :: st) h (bI o' K) := by
  subst hn
  unfold bI
  cases ho : o' with
  | none => exact ev_no
  | some y =>
    have hm := hcal y ho
    exact ev_callE (x := cvI y) ⟨hm.1, hm.2.1⟩ (fun hS hLs hH hcl hsl => ⟨_, ev_runS (As := [v1, v2]) (k := kk) hS hLs hH hw hd' (fun v hv => by simp only [List.mem_cons, List.not_mem_nil, or_false] at hv; rcases hv with rfl | rfl <;> assumption) rfl hlen rfl (hcal y ho) rfl hsm hj hd hcl hsl⟩) (k1 y.1 y.2)
theorem ev_cs2R (nx : Nat) {v1 v2 : Value} {o' : Option (Option Nat × ev_hs)} {K : Option Nat → ev_hs → Option α} (hd : decode (mB M) pc = .ok (.invokestatic ix, 3)) (hw : ev_CS (mY M).cls ix M' 2) (hd' : d' + 1 ≤ d) (hlen : 2 ≤ mL M') (h1 : v1.category = 1) (h2 : v2.category = 1) (hsm : ev_sm st j) (hj : j ≤ 8) (hn : nx = pc + 3) (hcal : EvO E M' d' cvR 0 (some v1 :: some v2 :: List.replicate kk none) [] h o') (k1 : ∀ z g, EvO E M d cv nx lo (va_rf z :: st) g (K z g)) : EvO E M d cv pc lo (v2 :: v1 :: st) h (bR o' K) := by
  subst hn
  unfold bR
  cases ho : o' with
  | none => exact ev_no
  | some y =>
    have hm := hcal y ho
    exact ev_callE (x := cvR y) ⟨hm.1, hm.2.1⟩ (fun hS hLs hH hcl hsl => ⟨_, ev_runS (As := [v1, v2]) (k := kk) hS hLs hH hw hd' (fun v hv => by simp only [List.mem_cons, List.not_mem_nil, or_false] at hv; rcases hv with rfl | rfl <;> assumption) rfl hlen rfl (hcal y ho) rfl hsm hj hd hcl hsl⟩) (k1 y.1 y.2)
theorem ev_cs3I (nx : Nat) {v1 v2 v3 : Value} {o' : Option (Int × ev_hs)} {K : Int → ev_hs → Option α} (hd : decode (mB M) pc = .ok (.invokestatic ix, 3)) (hw : ev_CS (mY M).cls ix M' 3) (hd' : d' + 1 ≤ d) (hlen : 3 ≤ mL M') (h1 : v1.category = 1) (h2 : v2.category = 1) (h3 : v3.category = 1) (hsm : ev_sm st j) (hj : j ≤ 8) (hn : nx = pc + 3) (hcal : EvO E M' d' cvI 0 (some v1 :: some v2 :: some v3 :: List.replicate kk none) [] h o') (k1 : ∀ z g, EvO E M d cv nx lo (eI z :: st) g (K z g)) : EvO E M d cv pc lo (v3 :: v2 :: v1 :: st) h (bI o' K) := by
  subst hn
  unfold bI
  cases ho : o' with
  | none => exact ev_no
  | some y =>
    have hm := hcal y ho
    exact ev_callE (x := cvI y) ⟨hm.1, hm.2.1⟩ (fun hS hLs hH hcl hsl => ⟨_, ev_runS (As := [v1, v2, v3]) (k := kk) hS hLs hH hw hd' (fun v hv => by simp only [List.mem_cons, List.not_mem_nil, or_false] at hv; rcases hv with rfl | rfl | rfl <;> assumption) rfl hlen rfl (hcal y ho) rfl hsm hj hd hcl hsl⟩) (k1 y.1 y.2)
theorem ev_cs3R (nx : Nat) {v1 v2 v3 : Value} {o' : Option (Option Nat × ev_hs)} {K : Option Nat → ev_hs → Option α} (hd : decode (mB M) pc = .ok (.invokestatic ix, 3)) (hw : ev_CS (mY M).cls ix M' 3) (hd' : d' + 1 ≤ d) (hlen : 3 ≤ mL M') (h1 : v1.category = 1) (h2 : v2.category = 1) (h3 : v3.category = 1) (hsm : ev_sm st j) (hj : j ≤ 8) (hn : nx = pc + 3) (hcal : EvO E M' d' cvR 0 (some v1 :: some v2 :: some v3 :: List.replicate kk none) [] h o') (k1 : ∀ z g, EvO E M d cv nx lo (va_rf z :: st) g (K z g)) : EvO E M d cv pc lo (v3 :: v2 :: v1 :: st) h (bR o' K) := by
  subst hn
  unfold bR
  cases ho : o' with
  | none => exact ev_no
  | some y =>
    have hm := hcal y ho
    exact ev_callE (x := cvR y) ⟨hm.1, hm.2.1⟩ (fun hS hLs hH hcl hsl => ⟨_, ev_runS (As := [v1, v2, v3]) (k := kk) hS hLs hH hw hd' (fun v hv => by simp only [List.mem_cons, List.not_mem_nil, or_false] at hv; rcases hv with rfl | rfl | rfl <;> assumption) rfl hlen rfl (hcal y ho) rfl hsm hj hd hcl hsl⟩) (k1 y.1 y.2)
theorem ev_cv0I (nx : Nat) {ci : Nat} {q : Option Nat} {o' : Option (Int × ev_hs)} {K : Int → ev_hs → Option α} (hd : decode (mB M) pc = .ok (.invokevirtual ix, 3)) (hw : ev_CV (mY M).cls ix ci M' 0) (hd' : d' + 1 ≤ d) (hlen : 1 ≤ mL M')  (hsm : ev_sm st j) (hj : j ≤ 8) (hn : nx = pc + 3) (hcal : EvO E M' d' cvI 0 (some (va_rf q) :: List.replicate kk none) [] h o') (k1 : ∀ z g, EvO E M d cv nx lo (eI z :: st) g (K z g)) : EvO E M d cv pc lo (va_rf q :: st) h (vK h ci q (bI o' K)) := by
  subst hn
  unfold vK
  cases q with
  | none => exact ev_no
  | some b =>
  dsimp only
  split
  case isFalse => exact ev_no
  rename_i hk
  unfold bI
  cases ho : o' with
  | none => exact ev_no
  | some y =>
    have hm := hcal y ho
    exact ev_callE (x := cvI y) ⟨hm.1, hm.2.1⟩ (fun hS hLs hH hcl hsl => ⟨_, ev_runV (As := []) (k := kk) hS hLs hH hw hk hd' (fun v hv => by cases hv) rfl hlen rfl (hcal y ho) rfl hsm hj hd hcl hsl⟩) (k1 y.1 y.2)
theorem ev_cv0R (nx : Nat) {ci : Nat} {q : Option Nat} {o' : Option (Option Nat × ev_hs)} {K : Option Nat → ev_hs → Option α} (hd : decode (mB M) pc = .ok (.invokevirtual ix, 3)) (hw : ev_CV (mY M).cls ix ci M' 0) (hd' : d' + 1 ≤ d) (hlen : 1 ≤ mL M')  (hsm : ev_sm st j) (hj : j ≤ 8) (hn : nx = pc + 3) (hcal : EvO E M' d' cvR 0 (some (va_rf q) :: List.replicate kk none) [] h o') (k1 : ∀ z g, EvO E M d cv nx lo (va_rf z :: st) g (K z g)) : EvO E M d cv pc lo (va_rf q :: st) h (vK h ci q (bR o' K)) := by
  subst hn
  unfold vK
  cases q with
  | none => exact ev_no
  | some b =>
  dsimp only
  split
  case isFalse => exact ev_no
  rename_i hk
  unfold bR
  cases ho : o' with
  | none => exact ev_no
  | some y =>
    have hm := hcal y ho
    exact ev_callE (x := cvR y) ⟨hm.1, hm.2.1⟩ (fun hS hLs hH hcl hsl => ⟨_, ev_runV (As := []) (k := kk) hS hLs hH hw hk hd' (fun v hv => by cases hv) rfl hlen rfl (hcal y ho) rfl hsm hj hd hcl hsl⟩) (k1 y.1 y.2)
theorem ev_cv0V (nx : Nat) {ci : Nat} {q : Option Nat} {o' : Option (ev_hs)} {K : ev_hs → Option α} (hd : decode (mB M) pc = .ok (.invokevirtual ix, 3)) (hw : ev_CV (mY M).cls ix ci M' 0) (hd' : d' + 1 ≤ d) (hlen : 1 ≤ mL M')  (hsm : ev_sm st j) (hj : j ≤ 8) (hn : nx = pc + 3) (hcal : EvO E M' d' cvV 0 (some (va_rf q) :: List.replicate kk none) [] h o') (k1 : ∀ g, EvO E M d cv nx lo st g (K g)) : EvO E M d cv pc lo (va_rf q :: st) h (vK h ci q (bV o' K)) := by
  subst hn
  unfold vK
  cases q with
  | none => exact ev_no
  | some b =>
  dsimp only
  split
  case isFalse => exact ev_no
  rename_i hk
  unfold bV
  cases ho : o' with
  | none => exact ev_no
  | some y =>
    have hm := hcal y ho
    exact ev_callE (x := cvV y) ⟨hm.1, hm.2.1⟩ (fun hS hLs hH hcl hsl => ⟨_, ev_runV (As := []) (k := kk) hS hLs hH hw hk hd' (fun v hv => by cases hv) rfl hlen rfl (hcal y ho) rfl hsm hj hd hcl hsl⟩) (k1 y)
theorem ev_cv1I (nx : Nat) {ci : Nat} {q : Option Nat} {v1 : Value} {o' : Option (Int × ev_hs)} {K : Int → ev_hs → Option α} (hd : decode (mB M) pc = .ok (.invokevirtual ix, 3)) (hw : ev_CV (mY M).cls ix ci M' 1) (hd' : d' + 1 ≤ d) (hlen : 2 ≤ mL M') (h1 : v1.category = 1) (hsm : ev_sm st j) (hj : j ≤ 8) (hn : nx = pc + 3) (hcal : EvO E M' d' cvI 0 (some (va_rf q) :: some v1 :: List.replicate kk none) [] h o') (k1 : ∀ z g, EvO E M d cv nx lo (eI z :: st) g (K z g)) : EvO E M d cv pc lo (v1 :: va_rf q :: st) h (vK h ci q (bI o' K)) := by
  subst hn
  unfold vK
  cases q with
  | none => exact ev_no
  | some b =>
  dsimp only
  split
  case isFalse => exact ev_no
  rename_i hk
  unfold bI
  cases ho : o' with
  | none => exact ev_no
  | some y =>
    have hm := hcal y ho
    exact ev_callE (x := cvI y) ⟨hm.1, hm.2.1⟩ (fun hS hLs hH hcl hsl => ⟨_, ev_runV (As := [v1]) (k := kk) hS hLs hH hw hk hd' (fun v hv => by simp only [List.mem_cons, List.not_mem_nil, or_false] at hv; rcases hv with rfl <;> assumption) rfl hlen rfl (hcal y ho) rfl hsm hj hd hcl hsl⟩) (k1 y.1 y.2)
theorem ev_cv1R (nx : Nat) {ci : Nat} {q : Option Nat} {v1 : Value} {o' : Option (Option Nat × ev_hs)} {K : Option Nat → ev_hs → Option α} (hd : decode (mB M) pc = .ok (.invokevirtual ix, 3)) (hw : ev_CV (mY M).cls ix ci M' 1) (hd' : d' + 1 ≤ d) (hlen : 2 ≤ mL M') (h1 : v1.category = 1) (hsm : ev_sm st j) (hj : j ≤ 8) (hn : nx = pc + 3) (hcal : EvO E M' d' cvR 0 (some (va_rf q) :: some v1 :: List.replicate kk none) [] h o') (k1 : ∀ z g, EvO E M d cv nx lo (va_rf z :: st) g (K z g)) : EvO E M d cv pc lo (v1 :: va_rf q :: st) h (vK h ci q (bR o' K)) := by
  subst hn
  unfold vK
  cases q with
  | none => exact ev_no
  | some b =>
  dsimp only
  split
  case isFalse => exact ev_no
  rename_i hk
  unfold bR
  cases ho : o' with
  | none => exact ev_no
  | some y =>
    have hm := hcal y ho
    exact ev_callE (x := cvR y) ⟨hm.1, hm.2.1⟩ (fun hS hLs hH hcl hsl => ⟨_, ev_runV (As := [v1]) (k := kk) hS hLs hH hw hk hd' (fun v hv => by simp only [List.mem_cons, List.not_mem_nil, or_false] at hv; rcases hv with rfl <;> assumption) rfl hlen rfl (hcal y ho) rfl hsm hj hd hcl hsl⟩) (k1 y.1 y.2)
theorem ev_cv1V (nx : Nat) {ci : Nat} {q : Option Nat} {v1 : Value} {o' : Option (ev_hs)} {K : ev_hs → Option α} (hd : decode (mB M) pc = .ok (.invokevirtual ix, 3)) (hw : ev_CV (mY M).cls ix ci M' 1) (hd' : d' + 1 ≤ d) (hlen : 2 ≤ mL M') (h1 : v1.category = 1) (hsm : ev_sm st j) (hj : j ≤ 8) (hn : nx = pc + 3) (hcal : EvO E M' d' cvV 0 (some (va_rf q) :: some v1 :: List.replicate kk none) [] h o') (k1 : ∀ g, EvO E M d cv nx lo st g (K g)) : EvO E M d cv pc lo (v1 :: va_rf q :: st) h (vK h ci q (bV o' K)) := by
  subst hn
  unfold vK
  cases q with
  | none => exact ev_no
  | some b =>
  dsimp only
  split
  case isFalse => exact ev_no
  rename_i hk
  unfold bV
  cases ho : o' with
  | none => exact ev_no
  | some y =>
    have hm := hcal y ho
    exact ev_callE (x := cvV y) ⟨hm.1, hm.2.1⟩ (fun hS hLs hH hcl hsl => ⟨_, ev_runV (As := [v1]) (k := kk) hS hLs hH hw hk hd' (fun v hv => by simp only [List.mem_cons, List.not_mem_nil, or_false] at hv; rcases hv with rfl <;> assumption) rfl hlen rfl (hcal y ho) rfl hsm hj hd hcl hsl⟩) (k1 y)
theorem ev_cv2I (nx : Nat) {ci : Nat} {q : Option Nat} {v1 v2 : Value} {o' : Option (Int × ev_hs)} {K : Int → ev_hs → Option α} (hd : decode (mB M) pc = .ok (.invokevirtual ix, 3)) (hw : ev_CV (mY M).cls ix ci M' 2) (hd' : d' + 1 ≤ d) (hlen : 3 ≤ mL M') (h1 : v1.category = 1) (h2 : v2.category = 1) (hsm : ev_sm st j) (hj : j ≤ 8) (hn : nx = pc + 3) (hcal : EvO E M' d' cvI 0 (some (va_rf q) :: some v1 :: some v2 :: List.replicate kk none) [] h o') (k1 : ∀ z g, EvO E M d cv nx lo (eI z :: st) g (K z g)) : EvO E M d cv pc lo (v2 :: v1 :: va_rf q :: st) h (vK h ci q (bI o' K)) := by
  subst hn
  unfold vK
  cases q with
  | none => exact ev_no
  | some b =>
  dsimp only
  split
  case isFalse => exact ev_no
  rename_i hk
  unfold bI
  cases ho : o' with
  | none => exact ev_no
  | some y =>
    have hm := hcal y ho
    exact ev_callE (x := cvI y) ⟨hm.1, hm.2.1⟩ (fun hS hLs hH hcl hsl => ⟨_, ev_runV (As := [v1, v2]) (k := kk) hS hLs hH hw hk hd' (fun v hv => by simp only [List.mem_cons, List.not_mem_nil, or_false] at hv; rcases hv with rfl | rfl <;> assumption) rfl hlen rfl (hcal y ho) rfl hsm hj hd hcl hsl⟩) (k1 y.1 y.2)
theorem ev_cv2R (nx : Nat) {ci : Nat} {q : Option Nat} {v1 v2 : Value} {o' : Option (Option Nat × ev_hs)} {K : Option Nat → ev_hs → Option α} (hd : decode (mB M) pc = .ok (.invokevirtual ix, 3)) (hw : ev_CV (mY M).cls ix ci M' 2) (hd' : d' + 1 ≤ d) (hlen : 3 ≤ mL M') (h1 : v1.category = 1) (h2 : v2.category = 1) (hsm : ev_sm st j) (hj : j ≤ 8) (hn : nx = pc + 3) (hcal : EvO E M' d' cvR 0 (some (va_rf q) :: some v1 :: some v2 :: List.replicate kk none) [] h o') (k1 : ∀ z g, EvO E M d cv nx lo (va_rf z :: st) g (K z g)) : EvO E M d cv pc lo (v2 :: v1 :: va_rf q :: st) h (vK h ci q (bR o' K)) := by
  subst hn
  unfold vK
  cases q with
  | none => exact ev_no
  | some b =>
  dsimp only
  split
  case isFalse => exact ev_no
  rename_i hk
  unfold bR
  cases ho : o' with
  | none => exact ev_no
  | some y =>
    have hm := hcal y ho
    exact ev_callE (x := cvR y) ⟨hm.1, hm.2.1⟩ (fun hS hLs hH hcl hsl => ⟨_, ev_runV (As := [v1, v2]) (k := kk) hS hLs hH hw hk hd' (fun v hv => by simp only [List.mem_cons, List.not_mem_nil, or_false] at hv; rcases hv with rfl | rfl <;> assumption) rfl hlen rfl (hcal y ho) rfl hsm hj hd hcl hsl⟩) (k1 y.1 y.2)
theorem ev_cv2V (nx : Nat) {ci : Nat} {q : Option Nat} {v1 v2 : Value} {o' : Option (ev_hs)} {K : ev_hs → Option α} (hd : decode (mB M) pc = .ok (.invokevirtual ix, 3)) (hw : ev_CV (mY M).cls ix ci M' 2) (hd' : d' + 1 ≤ d) (hlen : 3 ≤ mL M') (h1 : v1.category = 1) (h2 : v2.category = 1) (hsm : ev_sm st j) (hj : j ≤ 8) (hn : nx = pc + 3) (hcal : EvO E M' d' cvV 0 (some (va_rf q) :: some v1 :: some v2 :: List.replicate kk none) [] h o') (k1 : ∀ g, EvO E M d cv nx lo st g (K g)) : EvO E M d cv pc lo (v2 :: v1 :: va_rf q :: st) h (vK h ci q (bV o' K)) := by
  subst hn
  unfold vK
  cases q with
  | none => exact ev_no
  | some b =>
  dsimp only
  split
  case isFalse => exact ev_no
  rename_i hk
  unfold bV
  cases ho : o' with
  | none => exact ev_no
  | some y =>
    have hm := hcal y ho
    exact ev_callE (x := cvV y) ⟨hm.1, hm.2.1⟩ (fun hS hLs hH hcl hsl => ⟨_, ev_runV (As := [v1, v2]) (k := kk) hS hLs hH hw hk hd' (fun v hv => by simp only [List.mem_cons, List.not_mem_nil, or_false] at hv; rcases hv with rfl | rfl <;> assumption) rfl hlen rfl (hcal y ho) rfl hsm hj hd hcl hsl⟩) (k1 y)
theorem ev_cv3I (nx : Nat) {ci : Nat} {q : Option Nat} {v1 v2 v3 : Value} {o' : Option (Int × ev_hs)} {K : Int → ev_hs → Option α} (hd : decode (mB M) pc = .ok (.invokevirtual ix, 3)) (hw : ev_CV (mY M).cls ix ci M' 3) (hd' : d' + 1 ≤ d) (hlen : 4 ≤ mL M') (h1 : v1.category = 1) (h2 : v2.category = 1) (h3 : v3.category = 1) (hsm : ev_sm st j) (hj : j ≤ 8) (hn : nx = pc + 3) (hcal : EvO E M' d' cvI 0 (some (va_rf q) :: some v1 :: some v2 :: some v3 :: List.replicate kk none) [] h o') (k1 : ∀ z g, EvO E M d cv nx lo (eI z :: st) g (K z g)) : EvO E M d cv pc lo (v3 :: v2 :: v1 :: va_rf q :: st) h (vK h ci q (bI o' K)) := by
  subst hn
  unfold vK
  cases q with
  | none => exact ev_no
  | some b =>
  dsimp only
  split
  case isFalse => exact ev_no
  rename_i hk
  unfold bI
  cases ho : o' with
  | none => exact ev_no
  | some y =>
    have hm := hcal y ho
    exact ev_callE (x := cvI y) ⟨hm.1, hm.2.1⟩ (fun hS hLs hH hcl hsl => ⟨_, ev_runV (As := [v1, v2, v3]) (k := kk) hS hLs hH hw hk hd' (fun v hv => by simp only [List.mem_cons, List.not_mem_nil, or_false] at hv; rcases hv with rfl | rfl | rfl <;> assumption) rfl hlen rfl (hcal y ho) rfl hsm hj hd hcl hsl⟩) (k1 y.1 y.2)
theorem ev_cv3R (nx : Nat) {ci : Nat} {q : Option Nat} {v1 v2 v3 : Value} {o' : Option (Option Nat × ev_hs)} {K : Option Nat → ev_hs → Option α} (hd : decode (mB M) pc = .ok (.invokevirtual ix, 3)) (hw : ev_CV (mY M).cls ix ci M' 3) (hd' : d' + 1 ≤ d) (hlen : 4 ≤ mL M') (h1 : v1.category = 1) (h2 : v2.category = 1) (h3 : v3.category = 1) (hsm : ev_sm st j) (hj : j ≤ 8) (hn : nx = pc + 3) (hcal : EvO E M' d' cvR 0 (some (va_rf q) :: some v1 :: some v2 :: some v3 :: List.replicate kk none) [] h o') (k1 : ∀ z g, EvO E M d cv nx lo (va_rf z :: st) g (K z g)) : EvO E M d cv pc lo (v3 :: v2 :: v1 :: va_rf q :: st) h (vK h ci q (bR o' K)) := by
  subst hn
  unfold vK
  cases q with
  | none => exact ev_no
  | some b =>
  dsimp only
  split
  case isFalse => exact ev_no
  rename_i hk
  unfold bR
  cases ho : o' with
  | none => exact ev_no
  | some y =>
    have hm := hcal y ho
    exact ev_callE (x := cvR y) ⟨hm.1, hm.2.1⟩ (fun hS hLs hH hcl hsl => ⟨_, ev_runV (As := [v1, v2, v3]) (k := kk) hS hLs hH hw hk hd' (fun v hv => by simp only [List.mem_cons, List.not_mem_nil, or_false] at hv; rcases hv with rfl | rfl | rfl <;> assumption) rfl hlen rfl (hcal y ho) rfl hsm hj hd hcl hsl⟩) (k1 y.1 y.2)
theorem ev_cv3V (nx : Nat) {ci : Nat} {q : Option Nat} {v1 v2 v3 : Value} {o' : Option (ev_hs)} {K : ev_hs → Option α} (hd : decode (mB M) pc = .ok (.invokevirtual ix, 3)) (hw : ev_CV (mY M).cls ix ci M' 3) (hd' : d' + 1 ≤ d) (hlen : 4 ≤ mL M') (h1 : v1.category = 1) (h2 : v2.category = 1) (h3 : v3.category = 1) (hsm : ev_sm st j) (hj : j ≤ 8) (hn : nx = pc + 3) (hcal : EvO E M' d' cvV 0 (some (va_rf q) :: some v1 :: some v2 :: some v3 :: List.replicate kk none) [] h o') (k1 : ∀ g, EvO E M d cv nx lo st g (K g)) : EvO E M d cv pc lo (v3 :: v2 :: v1 :: va_rf q :: st) h (vK h ci q (bV o' K)) := by
  subst hn
  unfold vK
  cases q with
  | none => exact ev_no
  | some b =>
  dsimp only
  split
  case isFalse => exact ev_no
  rename_i hk
  unfold bV
  cases ho : o' with
  | none => exact ev_no
  | some y =>
    have hm := hcal y ho
    exact ev_callE (x := cvV y) ⟨hm.1, hm.2.1⟩ (fun hS hLs hH hcl hsl => ⟨_, ev_runV (As := [v1, v2, v3]) (k := kk) hS hLs hH hw hk hd' (fun v hv => by simp only [List.mem_cons, List.not_mem_nil, or_false] at hv; rcases hv with rfl | rfl | rfl <;> assumption) rfl hlen rfl (hcal y ho) rfl hsm hj hd hcl hsl⟩) (k1 y)
theorem ev_cv4I (nx : Nat) {ci : Nat} {q : Option Nat} {v1 v2 v3 v4 : Value} {o' : Option (Int × ev_hs)} {K : Int → ev_hs → Option α} (hd : decode (mB M) pc = .ok (.invokevirtual ix, 3)) (hw : ev_CV (mY M).cls ix ci M' 4) (hd' : d' + 1 ≤ d) (hlen : 5 ≤ mL M') (h1 : v1.category = 1) (h2 : v2.category = 1) (h3 : v3.category = 1) (h4 : v4.category = 1) (hsm : ev_sm st j) (hj : j ≤ 8) (hn : nx = pc + 3) (hcal : EvO E M' d' cvI 0 (some (va_rf q) :: some v1 :: some v2 :: some v3 :: some v4 :: List.replicate kk none) [] h o') (k1 : ∀ z g, EvO E M d cv nx lo (eI z :: st) g (K z g)) : EvO E M d cv pc lo (v4 :: v3 :: v2 :: v1 :: va_rf q :: st) h (vK h ci q (bI o' K)) := by
  subst hn
  unfold vK
  cases q with
  | none => exact ev_no
  | some b =>
  dsimp only
  split
  case isFalse => exact ev_no
  rename_i hk
  unfold bI
  cases ho : o' with
  | none => exact ev_no
  | some y =>
    have hm := hcal y ho
    exact ev_callE (x := cvI y) ⟨hm.1, hm.2.1⟩ (fun hS hLs hH hcl hsl => ⟨_, ev_runV (As := [v1, v2, v3, v4]) (k := kk) hS hLs hH hw hk hd' (fun v hv => by simp only [List.mem_cons, List.not_mem_nil, or_false] at hv; rcases hv with rfl | rfl | rfl | rfl <;> assumption) rfl hlen rfl (hcal y ho) rfl hsm hj hd hcl hsl⟩) (k1 y.1 y.2)
theorem ev_cv5I (nx : Nat) {ci : Nat} {q : Option Nat} {v1 v2 v3 v4 v5 : Value} {o' : Option (Int × ev_hs)} {K : Int → ev_hs → Option α} (hd : decode (mB M) pc = .ok (.invokevirtual ix, 3)) (hw : ev_CV (mY M).cls ix ci M' 5) (hd' : d' + 1 ≤ d) (hlen : 6 ≤ mL M') (h1 : v1.category = 1) (h2 : v2.category = 1) (h3 : v3.category = 1) (h4 : v4.category = 1) (h5 : v5.category = 1) (hsm : ev_sm st j) (hj : j ≤ 8) (hn : nx = pc + 3) (hcal : EvO E M' d' cvI 0 (some (va_rf q) :: some v1 :: some v2 :: some v3 :: some v4 :: some v5 :: List.replicate kk none) [] h o') (k1 : ∀ z g, EvO E M d cv nx lo (eI z :: st) g (K z g)) : EvO E M d cv pc lo (v5 :: v4 :: v3 :: v2 :: v1 :: va_rf q :: st) h (vK h ci q (bI o' K)) := by
  subst hn
  unfold vK
  cases q with
  | none => exact ev_no
  | some b =>
  dsimp only
  split
  case isFalse => exact ev_no
  rename_i hk
  unfold bI
  cases ho : o' with
  | none => exact ev_no
  | some y =>
    have hm := hcal y ho
    exact ev_callE (x := cvI y) ⟨hm.1, hm.2.1⟩ (fun hS hLs hH hcl hsl => ⟨_, ev_runV (As := [v1, v2, v3, v4, v5]) (k := kk) hS hLs hH hw hk hd' (fun v hv => by simp only [List.mem_cons, List.not_mem_nil, or_false] at hv; rcases hv with rfl | rfl | rfl | rfl | rfl <;> assumption) rfl hlen rfl (hcal y ho) rfl hsm hj hd hcl hsl⟩) (k1 y.1 y.2)
theorem ev_cv7V (nx : Nat) {ci : Nat} {q : Option Nat} {v1 v2 v3 v4 v5 v6 v7 : Value} {o' : Option (ev_hs)} {K : ev_hs → Option α} (hd : decode (mB M) pc = .ok (.invokevirtual ix, 3)) (hw : ev_CV (mY M).cls ix ci M' 7) (hd' : d' + 1 ≤ d) (hlen : 8 ≤ mL M') (h1 : v1.category = 1) (h2 : v2.category = 1) (h3 : v3.category = 1) (h4 : v4.category = 1) (h5 : v5.category = 1) (h6 : v6.category = 1) (h7 : v7.category = 1) (hsm : ev_sm st j) (hj : j ≤ 8) (hn : nx = pc + 3) (hcal : EvO E M' d' cvV 0 (some (va_rf q) :: some v1 :: some v2 :: some v3 :: some v4 :: some v5 :: some v6 :: some v7 :: List.replicate kk none) [] h o') (k1 : ∀ g, EvO E M d cv nx lo st g (K g)) : EvO E M d cv pc lo (v7 :: v6 :: v5 :: v4 :: v3 :: v2 :: v1 :: va_rf q :: st) h (vK h ci q (bV o' K)) := by
  subst hn
  unfold vK
  cases q with
  | none => exact ev_no
  | some b =>
  dsimp only
  split
  case isFalse => exact ev_no
  rename_i hk
  unfold bV
  cases ho : o' with
  | none => exact ev_no
  | some y =>
    have hm := hcal y ho
    exact ev_callE (x := cvV y) ⟨hm.1, hm.2.1⟩ (fun hS hLs hH hcl hsl => ⟨_, ev_runV (As := [v1, v2, v3, v4, v5, v6, v7]) (k := kk) hS hLs hH hw hk hd' (fun v hv => by simp only [List.mem_cons, List.not_mem_nil, or_false] at hv; rcases hv with rfl | rfl | rfl | rfl | rfl | rfl | rfl <;> assumption) rfl hlen rfl (hcal y ho) rfl hsm hj hd hcl hsl⟩) (k1 y)
end Calls
end
section
theorem evWi {w : Cond} (h : w ∈ tables_1) (hg : (k2_isCode w || goodWord w) = true) : w ∈ evW := List.mem_filter.mpr ⟨List.mem_append_right _ h, hg⟩
theorem tj_1 (w : Cond) (h : w ∈ tables_1_1) : w ∈ tables_1 := List.mem_append_left _ h
theorem tj_2 (w : Cond) (h : w ∈ tables_1_2) : w ∈ tables_1 := List.mem_append_right _ (List.mem_append_left _ h)
theorem tj_3 (w : Cond) (h : w ∈ tables_1_3) : w ∈ tables_1 := List.mem_append_right _ (List.mem_append_right _ (List.mem_append_left _ h))
theorem tj_4 (w : Cond) (h : w ∈ tables_1_4) : w ∈ tables_1 := List.mem_append_right _ (List.mem_append_right _ (List.mem_append_right _ (List.mem_append_left _ h)))
theorem tj_5 (w : Cond) (h : w ∈ tables_1_5) : w ∈ tables_1 := List.mem_append_right _ (List.mem_append_right _ (List.mem_append_right _ (List.mem_append_right _ (h))))
set_option maxRecDepth 20000 in
theorem w_0 : (Jvm.Cond.initialized "MeshLinesLaw") ∈ evW := evWi (tj_1 _ (List.mem_of_getElem? (i := 0) rfl)) rfl
set_option maxRecDepth 20000 in
theorem w_1 : (Jvm.Cond.initialized "MeshLines") ∈ evW := evWi (tj_1 _ (List.mem_of_getElem? (i := 1) rfl)) rfl
set_option maxRecDepth 20000 in
theorem w_2 : (Jvm.Cond.initialized "MeshLines$Mesh") ∈ evW := evWi (tj_1 _ (List.mem_of_getElem? (i := 2) rfl)) rfl
set_option maxRecDepth 20000 in
theorem w_3 : (Jvm.Cond.initialized "java/lang/Math") ∈ evW := evWi (tj_1 _ (List.mem_of_getElem? (i := 3) rfl)) rfl
set_option maxRecDepth 20000 in
theorem w_4 : (Jvm.Cond.initialized "MeshLines$Lane") ∈ evW := evWi (tj_1 _ (List.mem_of_getElem? (i := 4) rfl)) rfl
set_option maxRecDepth 20000 in
theorem w_5 : (Jvm.Cond.initialized "java/util/AbstractCollection") ∈ evW := evWi (tj_1 _ (List.mem_of_getElem? (i := 5) rfl)) rfl
set_option maxRecDepth 20000 in
theorem w_6 : (Jvm.Cond.initialized "java/util/AbstractList") ∈ evW := evWi (tj_1 _ (List.mem_of_getElem? (i := 6) rfl)) rfl
set_option maxRecDepth 20000 in
theorem w_7 : (Jvm.Cond.initialized "java/util/ArrayList") ∈ evW := evWi (tj_1 _ (List.mem_of_getElem? (i := 7) rfl)) rfl
set_option maxRecDepth 20000 in
theorem w_8 : (Jvm.Cond.initialized "MeshLines$FlitBuffer") ∈ evW := evWi (tj_1 _ (List.mem_of_getElem? (i := 8) rfl)) rfl
set_option maxRecDepth 20000 in
theorem w_9 : (Jvm.Cond.initialized "MeshLines$Home") ∈ evW := evWi (tj_1 _ (List.mem_of_getElem? (i := 9) rfl)) rfl
set_option maxRecDepth 20000 in
theorem w_10 : (Jvm.Cond.initialized "MeshLines$Node") ∈ evW := evWi (tj_1 _ (List.mem_of_getElem? (i := 10) rfl)) rfl
set_option maxRecDepth 20000 in
theorem w_11 : (Jvm.Cond.initialized "MeshLines$Cache") ∈ evW := evWi (tj_1 _ (List.mem_of_getElem? (i := 11) rfl)) rfl
set_option maxRecDepth 20000 in
theorem w_12 : (Jvm.Cond.initialized "MeshLines$Core") ∈ evW := evWi (tj_1 _ (List.mem_of_getElem? (i := 12) rfl)) rfl
set_option maxRecDepth 20000 in
theorem w_13 : (Jvm.Cond.initialized "MeshLinesModel") ∈ evW := evWi (tj_1 _ (List.mem_of_getElem? (i := 13) rfl)) rfl
set_option maxRecDepth 20000 in
theorem w_14 : (Jvm.Cond.initialized "MeshLines$Flit") ∈ evW := evWi (tj_1 _ (List.mem_of_getElem? (i := 14) rfl)) rfl
set_option maxRecDepth 20000 in
theorem w_15 : (Jvm.Cond.initialized "java/util/Objects") ∈ evW := evWi (tj_1 _ (List.mem_of_getElem? (i := 15) rfl)) rfl
set_option maxRecDepth 20000 in
theorem w_16 : (Jvm.Cond.initialized "jdk/internal/util/Preconditions") ∈ evW := evWi (tj_1 _ (List.mem_of_getElem? (i := 16) rfl)) rfl
set_option maxRecDepth 20000 in
theorem w_17 : (Jvm.Cond.initialized "java/lang/System") ∈ evW := evWi (tj_1 _ (List.mem_of_getElem? (i := 17) rfl)) rfl
set_option maxRecDepth 20000 in
theorem w_18 : (Jvm.Cond.initialized "jdk/internal/util/ArraysSupport") ∈ evW := evWi (tj_1 _ (List.mem_of_getElem? (i := 18) rfl)) rfl
set_option maxRecDepth 20000 in
theorem w_19 : (Jvm.Cond.initialized "java/util/Arrays") ∈ evW := evWi (tj_1 _ (List.mem_of_getElem? (i := 19) rfl)) rfl
set_option maxRecDepth 20000 in
theorem w_20 : (Jvm.Cond.initialized "MeshLines$Packet") ∈ evW := evWi (tj_1 _ (List.mem_of_getElem? (i := 20) rfl)) rfl
set_option maxRecDepth 20000 in
theorem w_21 : (Jvm.Cond.initialized "java/lang/Integer") ∈ evW := evWi (tj_1 _ (List.mem_of_getElem? (i := 21) rfl)) rfl
set_option maxRecDepth 20000 in
theorem w_22 : (Jvm.Cond.classLink "MeshLinesLaw" (7 : Nat) "MeshLines") ∈ evW := evWi (tj_1 _ (List.mem_of_getElem? (i := 22) rfl)) rfl
set_option maxRecDepth 20000 in
theorem w_23 : (Jvm.Cond.instantiable "MeshLines" (4 : Nat)) ∈ evW := evWi (tj_1 _ (List.mem_of_getElem? (i := 23) rfl)) rfl
set_option maxRecDepth 20000 in
theorem w_24 : (Jvm.Cond.methodLink "MeshLinesLaw" (15 : Nat) ({ cls := "MeshLines", name := "<init>", desc := "(II)V" } : Jvm.MethodName)) ∈ evW := evWi (tj_1 _ (List.mem_of_getElem? (i := 24) rfl)) rfl
set_option maxRecDepth 20000 in
theorem w_25 : (Jvm.Cond.instanceMethod ({ cls := "MeshLines", name := "<init>", desc := "(II)V" } : Jvm.MethodName)) ∈ evW := evWi (tj_1 _ (List.mem_of_getElem? (i := 25) rfl)) rfl
set_option maxRecDepth 20000 in
theorem w_26 : (Jvm.Cond.code ({ cls := "MeshLines", name := "<init>", desc := "(II)V" } : Jvm.MethodName) prog_1_method_1_code (4 : Nat) (Option.none : Option Jvm.ClassFile.FieldType)) ∈ evW := evWi (tj_1 _ (List.mem_of_getElem? (i := 26) rfl)) rfl
set_option maxRecDepth 20000 in
theorem w_27 : (Jvm.Cond.methodLink "MeshLines" (1 : Nat) ({ cls := "java/lang/Object", name := "<init>", desc := "()V" } : Jvm.MethodName)) ∈ evW := evWi (tj_1 _ (List.mem_of_getElem? (i := 27) rfl)) rfl
set_option maxRecDepth 20000 in
theorem w_28 : (Jvm.Cond.instanceMethod ({ cls := "java/lang/Object", name := "<init>", desc := "()V" } : Jvm.MethodName)) ∈ evW := evWi (tj_1 _ (List.mem_of_getElem? (i := 28) rfl)) rfl
set_option maxRecDepth 20000 in
theorem w_29 : (Jvm.Cond.code ({ cls := "java/lang/Object", name := "<init>", desc := "()V" } : Jvm.MethodName) object_method_1_code (1 : Nat) (Option.none : Option Jvm.ClassFile.FieldType)) ∈ evW := evWi (tj_1 _ (List.mem_of_getElem? (i := 29) rfl)) rfl
set_option maxRecDepth 20000 in
theorem w_30 : (Jvm.Cond.classLink "MeshLines" (7 : Nat) "MeshLines$Mesh") ∈ evW := evWi (tj_1 _ (List.mem_of_getElem? (i := 30) rfl)) rfl
set_option maxRecDepth 20000 in
theorem w_31 : (Jvm.Cond.instantiable "MeshLines$Mesh" (5 : Nat)) ∈ evW := evWi (tj_1 _ (List.mem_of_getElem? (i := 31) rfl)) rfl
set_option maxRecDepth 20000 in
theorem w_32 : (Jvm.Cond.methodLink "MeshLines" (9 : Nat) ({ cls := "MeshLines", name := "nearest", desc := "(III)I" } : Jvm.MethodName)) ∈ evW := evWi (tj_1 _ (List.mem_of_getElem? (i := 32) rfl)) rfl
set_option maxRecDepth 20000 in
theorem w_33 : (Jvm.Cond.static ({ cls := "MeshLines", name := "nearest", desc := "(III)I" } : Jvm.MethodName)) ∈ evW := evWi (tj_1 _ (List.mem_of_getElem? (i := 33) rfl)) rfl
set_option maxRecDepth 20000 in
theorem w_34 : (Jvm.Cond.code ({ cls := "MeshLines", name := "nearest", desc := "(III)I" } : Jvm.MethodName) prog_1_method_12_code (3 : Nat) (Option.some Jvm.ClassFile.FieldType.int)) ∈ evW := evWi (tj_1 _ (List.mem_of_getElem? (i := 34) rfl)) rfl
set_option maxRecDepth 20000 in
theorem w_35 : (Jvm.Cond.methodLink "MeshLines" (147 : Nat) ({ cls := "java/lang/Math", name := "min", desc := "(II)I" } : Jvm.MethodName)) ∈ evW := evWi (tj_1 _ (List.mem_of_getElem? (i := 35) rfl)) rfl
set_option maxRecDepth 20000 in
theorem w_36 : (Jvm.Cond.static ({ cls := "java/lang/Math", name := "min", desc := "(II)I" } : Jvm.MethodName)) ∈ evW := evWi (tj_1 _ (List.mem_of_getElem? (i := 36) rfl)) rfl
set_option maxRecDepth 20000 in
theorem w_37 : (Jvm.Cond.code ({ cls := "java/lang/Math", name := "min", desc := "(II)I" } : Jvm.MethodName) prog_17_method_69_code (2 : Nat) (Option.some Jvm.ClassFile.FieldType.int)) ∈ evW := evWi (tj_1 _ (List.mem_of_getElem? (i := 37) rfl)) rfl
set_option maxRecDepth 20000 in
theorem w_38 : (Jvm.Cond.methodLink "MeshLines" (153 : Nat) ({ cls := "java/lang/Math", name := "max", desc := "(II)I" } : Jvm.MethodName)) ∈ evW := evWi (tj_1 _ (List.mem_of_getElem? (i := 38) rfl)) rfl
set_option maxRecDepth 20000 in
theorem w_39 : (Jvm.Cond.static ({ cls := "java/lang/Math", name := "max", desc := "(II)I" } : Jvm.MethodName)) ∈ evW := evWi (tj_1 _ (List.mem_of_getElem? (i := 39) rfl)) rfl
set_option maxRecDepth 20000 in
theorem w_40 : (Jvm.Cond.code ({ cls := "java/lang/Math", name := "max", desc := "(II)I" } : Jvm.MethodName) prog_17_method_65_code (2 : Nat) (Option.some Jvm.ClassFile.FieldType.int)) ∈ evW := evWi (tj_1 _ (List.mem_of_getElem? (i := 40) rfl)) rfl
set_option maxRecDepth 20000 in
theorem w_41 : (Jvm.Cond.methodLink "MeshLines" (15 : Nat) ({ cls := "MeshLines$Mesh", name := "<init>", desc := "(II)V" } : Jvm.MethodName)) ∈ evW := evWi (tj_1 _ (List.mem_of_getElem? (i := 41) rfl)) rfl
set_option maxRecDepth 20000 in
theorem w_42 : (Jvm.Cond.instanceMethod ({ cls := "MeshLines$Mesh", name := "<init>", desc := "(II)V" } : Jvm.MethodName)) ∈ evW := evWi (tj_1 _ (List.mem_of_getElem? (i := 42) rfl)) rfl
set_option maxRecDepth 20000 in
theorem w_43 : (Jvm.Cond.code ({ cls := "MeshLines$Mesh", name := "<init>", desc := "(II)V" } : Jvm.MethodName) prog_8_method_1_code (4 : Nat) (Option.none : Option Jvm.ClassFile.FieldType)) ∈ evW := evWi (tj_1 _ (List.mem_of_getElem? (i := 43) rfl)) rfl
set_option maxRecDepth 20000 in
theorem w_44 : (Jvm.Cond.methodLink "MeshLines$Mesh" (3 : Nat) ({ cls := "java/lang/Object", name := "<init>", desc := "()V" } : Jvm.MethodName)) ∈ evW := evWi (tj_1 _ (List.mem_of_getElem? (i := 44) rfl)) rfl
set_option maxRecDepth 20000 in
theorem w_45 : (Jvm.Cond.classLink "MeshLines$Mesh" (9 : Nat) "MeshLines$Lane") ∈ evW := evWi (tj_1 _ (List.mem_of_getElem? (i := 45) rfl)) rfl
set_option maxRecDepth 20000 in
theorem w_47 : (Jvm.Cond.instantiable "MeshLines$Lane" (7 : Nat)) ∈ evW := evWi (tj_1 _ (List.mem_of_getElem? (i := 47) rfl)) rfl
set_option maxRecDepth 20000 in
theorem w_48 : (Jvm.Cond.methodLink "MeshLines$Mesh" (21 : Nat) ({ cls := "MeshLines$Lane", name := "<init>", desc := "(II)V" } : Jvm.MethodName)) ∈ evW := evWi (tj_1 _ (List.mem_of_getElem? (i := 48) rfl)) rfl
set_option maxRecDepth 20000 in
theorem w_49 : (Jvm.Cond.instanceMethod ({ cls := "MeshLines$Lane", name := "<init>", desc := "(II)V" } : Jvm.MethodName)) ∈ evW := evWi (tj_1 _ (List.mem_of_getElem? (i := 49) rfl)) rfl
set_option maxRecDepth 20000 in
theorem w_50 : (Jvm.Cond.code ({ cls := "MeshLines$Lane", name := "<init>", desc := "(II)V" } : Jvm.MethodName) prog_7_method_1_code (4 : Nat) (Option.none : Option Jvm.ClassFile.FieldType)) ∈ evW := evWi (tj_1 _ (List.mem_of_getElem? (i := 50) rfl)) rfl
set_option maxRecDepth 20000 in
theorem w_51 : (Jvm.Cond.methodLink "MeshLines$Lane" (3 : Nat) ({ cls := "java/lang/Object", name := "<init>", desc := "()V" } : Jvm.MethodName)) ∈ evW := evWi (tj_1 _ (List.mem_of_getElem? (i := 51) rfl)) rfl
set_option maxRecDepth 20000 in
theorem w_52 : (Jvm.Cond.classLink "MeshLines$Lane" (9 : Nat) "java/util/ArrayList") ∈ evW := evWi (tj_1 _ (List.mem_of_getElem? (i := 52) rfl)) rfl
set_option maxRecDepth 20000 in
theorem w_53 : (Jvm.Cond.instantiable "java/util/ArrayList" (3 : Nat)) ∈ evW := evWi (tj_1 _ (List.mem_of_getElem? (i := 53) rfl)) rfl
set_option maxRecDepth 20000 in
theorem w_54 : (Jvm.Cond.methodLink "MeshLines$Lane" (11 : Nat) ({ cls := "java/util/ArrayList", name := "<init>", desc := "()V" } : Jvm.MethodName)) ∈ evW := evWi (tj_1 _ (List.mem_of_getElem? (i := 54) rfl)) rfl
set_option maxRecDepth 20000 in
theorem w_55 : (Jvm.Cond.instanceMethod ({ cls := "java/util/ArrayList", name := "<init>", desc := "()V" } : Jvm.MethodName)) ∈ evW := evWi (tj_1 _ (List.mem_of_getElem? (i := 55) rfl)) rfl
set_option maxRecDepth 20000 in
theorem w_56 : (Jvm.Cond.code ({ cls := "java/util/ArrayList", name := "<init>", desc := "()V" } : Jvm.MethodName) prog_21_method_2_code (1 : Nat) (Option.none : Option Jvm.ClassFile.FieldType)) ∈ evW := evWi (tj_1 _ (List.mem_of_getElem? (i := 56) rfl)) rfl
set_option maxRecDepth 20000 in
theorem w_57 : (Jvm.Cond.methodLink "java/util/ArrayList" (1 : Nat) ({ cls := "java/util/AbstractList", name := "<init>", desc := "()V" } : Jvm.MethodName)) ∈ evW := evWi (tj_1 _ (List.mem_of_getElem? (i := 57) rfl)) rfl
set_option maxRecDepth 20000 in
theorem w_58 : (Jvm.Cond.instanceMethod ({ cls := "java/util/AbstractList", name := "<init>", desc := "()V" } : Jvm.MethodName)) ∈ evW := evWi (tj_1 _ (List.mem_of_getElem? (i := 58) rfl)) rfl
set_option maxRecDepth 20000 in
theorem w_59 : (Jvm.Cond.code ({ cls := "java/util/AbstractList", name := "<init>", desc := "()V" } : Jvm.MethodName) prog_20_method_1_code (1 : Nat) (Option.none : Option Jvm.ClassFile.FieldType)) ∈ evW := evWi (tj_1 _ (List.mem_of_getElem? (i := 59) rfl)) rfl
set_option maxRecDepth 20000 in
theorem w_60 : (Jvm.Cond.methodLink "java/util/AbstractList" (1 : Nat) ({ cls := "java/util/AbstractCollection", name := "<init>", desc := "()V" } : Jvm.MethodName)) ∈ evW := evWi (tj_1 _ (List.mem_of_getElem? (i := 60) rfl)) rfl
set_option maxRecDepth 20000 in
theorem w_61 : (Jvm.Cond.instanceMethod ({ cls := "java/util/AbstractCollection", name := "<init>", desc := "()V" } : Jvm.MethodName)) ∈ evW := evWi (tj_1 _ (List.mem_of_getElem? (i := 61) rfl)) rfl
set_option maxRecDepth 20000 in
theorem w_62 : (Jvm.Cond.code ({ cls := "java/util/AbstractCollection", name := "<init>", desc := "()V" } : Jvm.MethodName) prog_19_method_1_code (1 : Nat) (Option.none : Option Jvm.ClassFile.FieldType)) ∈ evW := evWi (tj_1 _ (List.mem_of_getElem? (i := 62) rfl)) rfl
set_option maxRecDepth 20000 in
theorem w_63 : (Jvm.Cond.methodLink "java/util/AbstractCollection" (1 : Nat) ({ cls := "java/lang/Object", name := "<init>", desc := "()V" } : Jvm.MethodName)) ∈ evW := evWi (tj_1 _ (List.mem_of_getElem? (i := 63) rfl)) rfl
set_option maxRecDepth 20000 in
theorem w_64 : (Jvm.Cond.fieldLink "java/util/ArrayList" (39 : Nat) "java/util/ArrayList" "DEFAULTCAPACITY_EMPTY_ELEMENTDATA" "[Ljava/lang/Object;") ∈ evW := evWi (tj_1 _ (List.mem_of_getElem? (i := 64) rfl)) rfl
set_option maxRecDepth 20000 in
theorem w_66 : (Jvm.Cond.fieldLink "java/util/ArrayList" (9 : Nat) "java/util/ArrayList" "elementData" "[Ljava/lang/Object;") ∈ evW := evWi (tj_1 _ (List.mem_of_getElem? (i := 66) rfl)) rfl
set_option maxRecDepth 20000 in
theorem w_67 : (Jvm.Cond.fieldLink "java/util/ArrayList" (48 : Nat) "java/util/ArrayList" "size" "I") ∈ evW := evWi (tj_1 _ (List.mem_of_getElem? (i := 67) rfl)) rfl
set_option maxRecDepth 20000 in
theorem w_69 : (Jvm.Cond.fieldLink "java/util/ArrayList" (63 : Nat) "java/util/ArrayList" "modCount" "I") ∈ evW := evWi (tj_1 _ (List.mem_of_getElem? (i := 69) rfl)) rfl
set_option maxRecDepth 20000 in
theorem w_70 : (Jvm.Cond.sameField "java/util/ArrayList" "java/util/AbstractList" "modCount" "I") ∈ evW := evWi (tj_1 _ (List.mem_of_getElem? (i := 70) rfl)) rfl
set_option maxRecDepth 20000 in
theorem w_71 : (Jvm.Cond.lays "java/util/ArrayList" "java/util/ArrayList" "elementData" "[Ljava/lang/Object;") ∈ evW := evWi (tj_1 _ (List.mem_of_getElem? (i := 71) rfl)) rfl
set_option maxRecDepth 20000 in
theorem w_73 : (Jvm.Cond.lays "java/util/ArrayList" "java/util/ArrayList" "size" "I") ∈ evW := evWi (tj_1 _ (List.mem_of_getElem? (i := 73) rfl)) rfl
set_option maxRecDepth 20000 in
theorem w_75 : (Jvm.Cond.lays "java/util/ArrayList" "java/util/AbstractList" "modCount" "I") ∈ evW := evWi (tj_1 _ (List.mem_of_getElem? (i := 75) rfl)) rfl
set_option maxRecDepth 20000 in
theorem w_78 : (Jvm.Cond.classLink "MeshLines$Lane" (21 : Nat) "MeshLines$FlitBuffer") ∈ evW := evWi (tj_1 _ (List.mem_of_getElem? (i := 78) rfl)) rfl
set_option maxRecDepth 20000 in
theorem w_80 : (Jvm.Cond.instantiable "MeshLines$FlitBuffer" (2 : Nat)) ∈ evW := evWi (tj_1 _ (List.mem_of_getElem? (i := 80) rfl)) rfl
set_option maxRecDepth 20000 in
theorem w_81 : (Jvm.Cond.methodLink "MeshLines$Lane" (38 : Nat) ({ cls := "MeshLines$FlitBuffer", name := "<init>", desc := "(I)V" } : Jvm.MethodName)) ∈ evW := evWi (tj_1 _ (List.mem_of_getElem? (i := 81) rfl)) rfl
set_option maxRecDepth 20000 in
theorem w_82 : (Jvm.Cond.instanceMethod ({ cls := "MeshLines$FlitBuffer", name := "<init>", desc := "(I)V" } : Jvm.MethodName)) ∈ evW := evWi (tj_1 _ (List.mem_of_getElem? (i := 82) rfl)) rfl
set_option maxRecDepth 20000 in
theorem w_83 : (Jvm.Cond.code ({ cls := "MeshLines$FlitBuffer", name := "<init>", desc := "(I)V" } : Jvm.MethodName) prog_5_method_1_code (2 : Nat) (Option.none : Option Jvm.ClassFile.FieldType)) ∈ evW := evWi (tj_1 _ (List.mem_of_getElem? (i := 83) rfl)) rfl
set_option maxRecDepth 20000 in
theorem w_84 : (Jvm.Cond.methodLink "MeshLines$FlitBuffer" (1 : Nat) ({ cls := "java/lang/Object", name := "<init>", desc := "()V" } : Jvm.MethodName)) ∈ evW := evWi (tj_1 _ (List.mem_of_getElem? (i := 84) rfl)) rfl
set_option maxRecDepth 20000 in
theorem w_85 : (Jvm.Cond.classLink "MeshLines$FlitBuffer" (7 : Nat) "MeshLines$Flit") ∈ evW := evWi (tj_1 _ (List.mem_of_getElem? (i := 85) rfl)) rfl
set_option maxRecDepth 20000 in
theorem w_87 : (Jvm.Cond.fieldLink "MeshLines$FlitBuffer" (9 : Nat) "MeshLines$FlitBuffer" "flits" "[LMeshLines$Flit;") ∈ evW := evWi (tj_1 _ (List.mem_of_getElem? (i := 87) rfl)) rfl
set_option maxRecDepth 20000 in
theorem w_88 : (Jvm.Cond.fieldLink "MeshLines$FlitBuffer" (15 : Nat) "MeshLines$FlitBuffer" "size" "I") ∈ evW := evWi (tj_1 _ (List.mem_of_getElem? (i := 88) rfl)) rfl
set_option maxRecDepth 20000 in
theorem w_89 : (Jvm.Cond.fieldLink "MeshLines" (131 : Nat) "MeshLines$FlitBuffer" "size" "I") ∈ evW := evWi (tj_1 _ (List.mem_of_getElem? (i := 89) rfl)) rfl
set_option maxRecDepth 20000 in
theorem w_90 : (Jvm.Cond.laysFinal "MeshLines$FlitBuffer" "MeshLines$FlitBuffer" "flits" "[LMeshLines$Flit;") ∈ evW := evWi (tj_1 _ (List.mem_of_getElem? (i := 90) rfl)) rfl
set_option maxRecDepth 20000 in
theorem w_92 : (Jvm.Cond.lays "MeshLines$FlitBuffer" "MeshLines$FlitBuffer" "size" "I") ∈ evW := evWi (tj_1 _ (List.mem_of_getElem? (i := 92) rfl)) rfl
set_option maxRecDepth 20000 in
theorem w_95 : (Jvm.Cond.arrayClass Jvm.ClassFile.FieldType.int) ∈ evW := evWi (tj_1 _ (List.mem_of_getElem? (i := 95) rfl)) rfl
set_option maxRecDepth 20000 in
theorem w_96 : (Jvm.Cond.fieldLink "MeshLines$Lane" (34 : Nat) "MeshLines$Lane" "node" "I") ∈ evW := evWi (tj_1 _ (List.mem_of_getElem? (i := 96) rfl)) rfl
set_option maxRecDepth 20000 in
theorem w_97 : (Jvm.Cond.fieldLink "MeshLines$Lane" (12 : Nat) "MeshLines$Lane" "row" "Ljava/util/ArrayList;") ∈ evW := evWi (tj_1 _ (List.mem_of_getElem? (i := 97) rfl)) rfl
set_option maxRecDepth 20000 in
theorem w_98 : (Jvm.Cond.fieldLink "MeshLines$Mesh" (37 : Nat) "MeshLines$Lane" "row" "Ljava/util/ArrayList;") ∈ evW := evWi (tj_1 _ (List.mem_of_getElem? (i := 98) rfl)) rfl
set_option maxRecDepth 20000 in
theorem w_99 : (Jvm.Cond.fieldLink "MeshLines" (112 : Nat) "MeshLines$Lane" "row" "Ljava/util/ArrayList;") ∈ evW := evWi (tj_1 _ (List.mem_of_getElem? (i := 99) rfl)) rfl
set_option maxRecDepth 20000 in
theorem w_100 : (Jvm.Cond.fieldLink "MeshLines$Lane" (18 : Nat) "MeshLines$Lane" "inbox" "Ljava/util/ArrayList;") ∈ evW := evWi (tj_1 _ (List.mem_of_getElem? (i := 100) rfl)) rfl
set_option maxRecDepth 20000 in
theorem w_101 : (Jvm.Cond.fieldLink "MeshLines$Node" (47 : Nat) "MeshLines$Lane" "inbox" "Ljava/util/ArrayList;") ∈ evW := evWi (tj_1 _ (List.mem_of_getElem? (i := 101) rfl)) rfl
set_option maxRecDepth 20000 in
theorem w_102 : (Jvm.Cond.fieldLink "MeshLines$Mesh" (110 : Nat) "MeshLines$Lane" "inbox" "Ljava/util/ArrayList;") ∈ evW := evWi (tj_1 _ (List.mem_of_getElem? (i := 102) rfl)) rfl
set_option maxRecDepth 20000 in
theorem w_103 : (Jvm.Cond.fieldLink "MeshLines" (124 : Nat) "MeshLines$Lane" "inbox" "Ljava/util/ArrayList;") ∈ evW := evWi (tj_1 _ (List.mem_of_getElem? (i := 103) rfl)) rfl
set_option maxRecDepth 20000 in
theorem w_104 : (Jvm.Cond.fieldLink "MeshLines$Lane" (23 : Nat) "MeshLines$Lane" "buffers" "[LMeshLines$FlitBuffer;") ∈ evW := evWi (tj_1 _ (List.mem_of_getElem? (i := 104) rfl)) rfl
set_option maxRecDepth 20000 in
theorem w_105 : (Jvm.Cond.fieldLink "MeshLines$Mesh" (69 : Nat) "MeshLines$Lane" "buffers" "[LMeshLines$FlitBuffer;") ∈ evW := evWi (tj_1 _ (List.mem_of_getElem? (i := 105) rfl)) rfl
set_option maxRecDepth 20000 in
theorem w_106 : (Jvm.Cond.fieldLink "MeshLines" (127 : Nat) "MeshLines$Lane" "buffers" "[LMeshLines$FlitBuffer;") ∈ evW := evWi (tj_1 _ (List.mem_of_getElem? (i := 106) rfl)) rfl
set_option maxRecDepth 20000 in
theorem w_107 : (Jvm.Cond.fieldLink "MeshLines$Lane" (27 : Nat) "MeshLines$Lane" "holders" "[I") ∈ evW := evWi (tj_1 _ (List.mem_of_getElem? (i := 107) rfl)) rfl
set_option maxRecDepth 20000 in
theorem w_108 : (Jvm.Cond.fieldLink "MeshLines" (135 : Nat) "MeshLines$Lane" "holders" "[I") ∈ evW := evWi (tj_1 _ (List.mem_of_getElem? (i := 108) rfl)) rfl
set_option maxRecDepth 20000 in
theorem w_109 : (Jvm.Cond.fieldLink "MeshLines$Lane" (31 : Nat) "MeshLines$Lane" "last" "[I") ∈ evW := evWi (tj_1 _ (List.mem_of_getElem? (i := 109) rfl)) rfl
set_option maxRecDepth 20000 in
theorem w_110 : (Jvm.Cond.fieldLink "MeshLines$Lane" (56 : Nat) "MeshLines$Lane" "entered" "I") ∈ evW := evWi (tj_1 _ (List.mem_of_getElem? (i := 110) rfl)) rfl
set_option maxRecDepth 20000 in
theorem w_111 : (Jvm.Cond.laysFinal "MeshLines$Lane" "MeshLines$Lane" "node" "I") ∈ evW := evWi (tj_1 _ (List.mem_of_getElem? (i := 111) rfl)) rfl
set_option maxRecDepth 20000 in
theorem w_113 : (Jvm.Cond.laysFinal "MeshLines$Lane" "MeshLines$Lane" "row" "Ljava/util/ArrayList;") ∈ evW := evWi (tj_1 _ (List.mem_of_getElem? (i := 113) rfl)) rfl
set_option maxRecDepth 20000 in
theorem w_115 : (Jvm.Cond.laysFinal "MeshLines$Lane" "MeshLines$Lane" "inbox" "Ljava/util/ArrayList;") ∈ evW := evWi (tj_1 _ (List.mem_of_getElem? (i := 115) rfl)) rfl
set_option maxRecDepth 20000 in
theorem w_117 : (Jvm.Cond.laysFinal "MeshLines$Lane" "MeshLines$Lane" "buffers" "[LMeshLines$FlitBuffer;") ∈ evW := evWi (tj_1 _ (List.mem_of_getElem? (i := 117) rfl)) rfl
set_option maxRecDepth 20000 in
theorem w_119 : (Jvm.Cond.laysFinal "MeshLines$Lane" "MeshLines$Lane" "holders" "[I") ∈ evW := evWi (tj_1 _ (List.mem_of_getElem? (i := 119) rfl)) rfl
set_option maxRecDepth 20000 in
theorem w_121 : (Jvm.Cond.laysFinal "MeshLines$Lane" "MeshLines$Lane" "last" "[I") ∈ evW := evWi (tj_1 _ (List.mem_of_getElem? (i := 121) rfl)) rfl
set_option maxRecDepth 20000 in
theorem w_123 : (Jvm.Cond.lays "MeshLines$Lane" "MeshLines$Lane" "entered" "I") ∈ evW := evWi (tj_1 _ (List.mem_of_getElem? (i := 123) rfl)) rfl
set_option maxRecDepth 20000 in
theorem w_126 : (Jvm.Cond.fieldLink "MeshLines$Mesh" (11 : Nat) "MeshLines$Mesh" "lanes" "[LMeshLines$Lane;") ∈ evW := evWi (tj_1 _ (List.mem_of_getElem? (i := 126) rfl)) rfl
set_option maxRecDepth 20000 in
theorem w_127 : (Jvm.Cond.fieldLink "MeshLines$Mesh" (17 : Nat) "MeshLines$Mesh" "flits" "I") ∈ evW := evWi (tj_1 _ (List.mem_of_getElem? (i := 127) rfl)) rfl
set_option maxRecDepth 20000 in
theorem w_128 : (Jvm.Cond.fieldLink "MeshLines$Mesh" (47 : Nat) "MeshLines$Mesh" "sent" "I") ∈ evW := evWi (tj_1 _ (List.mem_of_getElem? (i := 128) rfl)) rfl
set_option maxRecDepth 20000 in
theorem w_129 : (Jvm.Cond.fieldLink "MeshLines" (138 : Nat) "MeshLines$Mesh" "sent" "I") ∈ evW := evWi (tj_1 _ (List.mem_of_getElem? (i := 129) rfl)) rfl
set_option maxRecDepth 20000 in
theorem w_130 : (Jvm.Cond.fieldLink "MeshLines$Mesh" (54 : Nat) "MeshLines$Mesh" "arrived" "I") ∈ evW := evWi (tj_1 _ (List.mem_of_getElem? (i := 130) rfl)) rfl
set_option maxRecDepth 20000 in
theorem w_131 : (Jvm.Cond.fieldLink "MeshLines" (141 : Nat) "MeshLines$Mesh" "arrived" "I") ∈ evW := evWi (tj_1 _ (List.mem_of_getElem? (i := 131) rfl)) rfl
set_option maxRecDepth 20000 in
theorem w_132 : (Jvm.Cond.fieldLink "MeshLines$Mesh" (100 : Nat) "MeshLines$Mesh" "overLinks" "I") ∈ evW := evWi (tj_1 _ (List.mem_of_getElem? (i := 132) rfl)) rfl
set_option maxRecDepth 20000 in
theorem w_133 : (Jvm.Cond.fieldLink "MeshLines" (144 : Nat) "MeshLines$Mesh" "overLinks" "I") ∈ evW := evWi (tj_1 _ (List.mem_of_getElem? (i := 133) rfl)) rfl
set_option maxRecDepth 20000 in
theorem w_134 : (Jvm.Cond.laysFinal "MeshLines$Mesh" "MeshLines$Mesh" "lanes" "[LMeshLines$Lane;") ∈ evW := evWi (tj_1 _ (List.mem_of_getElem? (i := 134) rfl)) rfl
set_option maxRecDepth 20000 in
theorem w_136 : (Jvm.Cond.laysFinal "MeshLines$Mesh" "MeshLines$Mesh" "flits" "I") ∈ evW := evWi (tj_1 _ (List.mem_of_getElem? (i := 136) rfl)) rfl
set_option maxRecDepth 20000 in
theorem w_138 : (Jvm.Cond.lays "MeshLines$Mesh" "MeshLines$Mesh" "sent" "I") ∈ evW := evWi (tj_1 _ (List.mem_of_getElem? (i := 138) rfl)) rfl
set_option maxRecDepth 20000 in
theorem w_140 : (Jvm.Cond.lays "MeshLines$Mesh" "MeshLines$Mesh" "arrived" "I") ∈ evW := evWi (tj_1 _ (List.mem_of_getElem? (i := 140) rfl)) rfl
set_option maxRecDepth 20000 in
theorem w_142 : (Jvm.Cond.lays "MeshLines$Mesh" "MeshLines$Mesh" "overLinks" "I") ∈ evW := evWi (tj_1 _ (List.mem_of_getElem? (i := 142) rfl)) rfl
set_option maxRecDepth 20000 in
theorem w_145 : (Jvm.Cond.classLink "MeshLines" (22 : Nat) "MeshLines$Home") ∈ evW := evWi (tj_1 _ (List.mem_of_getElem? (i := 145) rfl)) rfl
set_option maxRecDepth 20000 in
theorem w_147 : (Jvm.Cond.instantiable "MeshLines$Home" (7 : Nat)) ∈ evW := evWi (tj_1 _ (List.mem_of_getElem? (i := 147) rfl)) rfl
set_option maxRecDepth 20000 in
theorem w_148 : (Jvm.Cond.methodLink "MeshLines" (28 : Nat) ({ cls := "MeshLines$Home", name := "<init>", desc := "(ILMeshLines$Mesh;)V" } : Jvm.MethodName)) ∈ evW := evWi (tj_1 _ (List.mem_of_getElem? (i := 148) rfl)) rfl
set_option maxRecDepth 20000 in
theorem w_149 : (Jvm.Cond.instanceMethod ({ cls := "MeshLines$Home", name := "<init>", desc := "(ILMeshLines$Mesh;)V" } : Jvm.MethodName)) ∈ evW := evWi (tj_1 _ (List.mem_of_getElem? (i := 149) rfl)) rfl
set_option maxRecDepth 20000 in
theorem w_150 : (Jvm.Cond.code ({ cls := "MeshLines$Home", name := "<init>", desc := "(ILMeshLines$Mesh;)V" } : Jvm.MethodName) prog_6_method_1_code (3 : Nat) (Option.none : Option Jvm.ClassFile.FieldType)) ∈ evW := evWi (tj_1 _ (List.mem_of_getElem? (i := 150) rfl)) rfl
set_option maxRecDepth 20000 in
theorem w_151 : (Jvm.Cond.methodLink "MeshLines$Home" (3 : Nat) ({ cls := "java/lang/Object", name := "<init>", desc := "()V" } : Jvm.MethodName)) ∈ evW := evWi (tj_1 _ (List.mem_of_getElem? (i := 151) rfl)) rfl
set_option maxRecDepth 20000 in
theorem w_153 : (Jvm.Cond.static ({ cls := "MeshLines", name := "homeOf", desc := "(I)I" } : Jvm.MethodName)) ∈ evW := evWi (tj_1 _ (List.mem_of_getElem? (i := 153) rfl)) rfl
set_option maxRecDepth 20000 in
theorem w_154 : (Jvm.Cond.code ({ cls := "MeshLines", name := "homeOf", desc := "(I)I" } : Jvm.MethodName) prog_1_method_13_code (1 : Nat) (Option.some Jvm.ClassFile.FieldType.int)) ∈ evW := evWi (tj_1 _ (List.mem_of_getElem? (i := 154) rfl)) rfl
set_option maxRecDepth 20000 in
theorem w_155 : (Jvm.Cond.fieldLink "MeshLines$Home" (18 : Nat) "MeshLines$Home" "line" "I") ∈ evW := evWi (tj_1 _ (List.mem_of_getElem? (i := 155) rfl)) rfl
set_option maxRecDepth 20000 in
theorem w_156 : (Jvm.Cond.fieldLink "MeshLines$Home" (25 : Nat) "MeshLines$Home" "node" "I") ∈ evW := evWi (tj_1 _ (List.mem_of_getElem? (i := 156) rfl)) rfl
set_option maxRecDepth 20000 in
theorem w_157 : (Jvm.Cond.fieldLink "MeshLines$Home" (28 : Nat) "MeshLines$Home" "mesh" "LMeshLines$Mesh;") ∈ evW := evWi (tj_1 _ (List.mem_of_getElem? (i := 157) rfl)) rfl
set_option maxRecDepth 20000 in
theorem w_158 : (Jvm.Cond.fieldLink "MeshLines$Home" (11 : Nat) "MeshLines$Home" "state" "I") ∈ evW := evWi (tj_1 _ (List.mem_of_getElem? (i := 158) rfl)) rfl
set_option maxRecDepth 20000 in
theorem w_159 : (Jvm.Cond.fieldLink "MeshLines" (96 : Nat) "MeshLines$Home" "state" "I") ∈ evW := evWi (tj_1 _ (List.mem_of_getElem? (i := 159) rfl)) rfl
set_option maxRecDepth 20000 in
theorem w_160 : (Jvm.Cond.fieldLink "MeshLines$Home" (15 : Nat) "MeshLines$Home" "owner" "I") ∈ evW := evWi (tj_1 _ (List.mem_of_getElem? (i := 160) rfl)) rfl
set_option maxRecDepth 20000 in
theorem w_161 : (Jvm.Cond.fieldLink "MeshLines" (102 : Nat) "MeshLines$Home" "owner" "I") ∈ evW := evWi (tj_1 _ (List.mem_of_getElem? (i := 161) rfl)) rfl
set_option maxRecDepth 20000 in
theorem w_162 : (Jvm.Cond.fieldLink "MeshLines$Home" (64 : Nat) "MeshLines$Home" "sharers" "I") ∈ evW := evWi (tj_1 _ (List.mem_of_getElem? (i := 162) rfl)) rfl
set_option maxRecDepth 20000 in
theorem w_163 : (Jvm.Cond.fieldLink "MeshLines" (105 : Nat) "MeshLines$Home" "sharers" "I") ∈ evW := evWi (tj_1 _ (List.mem_of_getElem? (i := 163) rfl)) rfl
set_option maxRecDepth 20000 in
theorem w_164 : (Jvm.Cond.fieldLink "MeshLines$Home" (57 : Nat) "MeshLines$Home" "value" "I") ∈ evW := evWi (tj_1 _ (List.mem_of_getElem? (i := 164) rfl)) rfl
set_option maxRecDepth 20000 in
theorem w_165 : (Jvm.Cond.fieldLink "MeshLines" (99 : Nat) "MeshLines$Home" "value" "I") ∈ evW := evWi (tj_1 _ (List.mem_of_getElem? (i := 165) rfl)) rfl
set_option maxRecDepth 20000 in
theorem w_166 : (Jvm.Cond.laysFinal "MeshLines$Home" "MeshLines$Home" "line" "I") ∈ evW := evWi (tj_1 _ (List.mem_of_getElem? (i := 166) rfl)) rfl
set_option maxRecDepth 20000 in
theorem w_168 : (Jvm.Cond.laysFinal "MeshLines$Home" "MeshLines$Home" "node" "I") ∈ evW := evWi (tj_1 _ (List.mem_of_getElem? (i := 168) rfl)) rfl
set_option maxRecDepth 20000 in
theorem w_170 : (Jvm.Cond.laysFinal "MeshLines$Home" "MeshLines$Home" "mesh" "LMeshLines$Mesh;") ∈ evW := evWi (tj_1 _ (List.mem_of_getElem? (i := 170) rfl)) rfl
set_option maxRecDepth 20000 in
theorem w_172 : (Jvm.Cond.lays "MeshLines$Home" "MeshLines$Home" "state" "I") ∈ evW := evWi (tj_1 _ (List.mem_of_getElem? (i := 172) rfl)) rfl
set_option maxRecDepth 20000 in
theorem w_174 : (Jvm.Cond.lays "MeshLines$Home" "MeshLines$Home" "owner" "I") ∈ evW := evWi (tj_1 _ (List.mem_of_getElem? (i := 174) rfl)) rfl
set_option maxRecDepth 20000 in
theorem w_176 : (Jvm.Cond.lays "MeshLines$Home" "MeshLines$Home" "sharers" "I") ∈ evW := evWi (tj_1 _ (List.mem_of_getElem? (i := 176) rfl)) rfl
set_option maxRecDepth 20000 in
theorem w_178 : (Jvm.Cond.lays "MeshLines$Home" "MeshLines$Home" "value" "I") ∈ evW := evWi (tj_1 _ (List.mem_of_getElem? (i := 178) rfl)) rfl
set_option maxRecDepth 20000 in
theorem w_181 : (Jvm.Cond.classLink "MeshLines" (31 : Nat) "MeshLines$Node") ∈ evW := evWi (tj_1 _ (List.mem_of_getElem? (i := 181) rfl)) rfl
set_option maxRecDepth 20000 in
theorem w_183 : (Jvm.Cond.instantiable "MeshLines$Node" (5 : Nat)) ∈ evW := evWi (tj_1 _ (List.mem_of_getElem? (i := 183) rfl)) rfl
set_option maxRecDepth 20000 in
theorem w_184 : (Jvm.Cond.methodLink "MeshLines" (37 : Nat) ({ cls := "MeshLines$Node", name := "<init>", desc := "(ILMeshLines$Mesh;[LMeshLines$Home;)V" } : Jvm.MethodName)) ∈ evW := evWi (tj_1 _ (List.mem_of_getElem? (i := 184) rfl)) rfl
set_option maxRecDepth 20000 in
theorem w_185 : (Jvm.Cond.instanceMethod ({ cls := "MeshLines$Node", name := "<init>", desc := "(ILMeshLines$Mesh;[LMeshLines$Home;)V" } : Jvm.MethodName)) ∈ evW := evWi (tj_1 _ (List.mem_of_getElem? (i := 185) rfl)) rfl
set_option maxRecDepth 20000 in
theorem w_186 : (Jvm.Cond.code ({ cls := "MeshLines$Node", name := "<init>", desc := "(ILMeshLines$Mesh;[LMeshLines$Home;)V" } : Jvm.MethodName) prog_9_method_1_code (4 : Nat) (Option.none : Option Jvm.ClassFile.FieldType)) ∈ evW := evWi (tj_1 _ (List.mem_of_getElem? (i := 186) rfl)) rfl
set_option maxRecDepth 20000 in
theorem w_187 : (Jvm.Cond.methodLink "MeshLines$Node" (3 : Nat) ({ cls := "java/lang/Object", name := "<init>", desc := "()V" } : Jvm.MethodName)) ∈ evW := evWi (tj_1 _ (List.mem_of_getElem? (i := 187) rfl)) rfl
set_option maxRecDepth 20000 in
theorem w_188 : (Jvm.Cond.classLink "MeshLines$Node" (23 : Nat) "MeshLines$Cache") ∈ evW := evWi (tj_1 _ (List.mem_of_getElem? (i := 188) rfl)) rfl
set_option maxRecDepth 20000 in
theorem w_189 : (Jvm.Cond.instantiable "MeshLines$Cache" (6 : Nat)) ∈ evW := evWi (tj_1 _ (List.mem_of_getElem? (i := 189) rfl)) rfl
set_option maxRecDepth 20000 in
theorem w_190 : (Jvm.Cond.methodLink "MeshLines$Node" (25 : Nat) ({ cls := "MeshLines$Cache", name := "<init>", desc := "(ILMeshLines$Mesh;)V" } : Jvm.MethodName)) ∈ evW := evWi (tj_1 _ (List.mem_of_getElem? (i := 190) rfl)) rfl
set_option maxRecDepth 20000 in
theorem w_191 : (Jvm.Cond.instanceMethod ({ cls := "MeshLines$Cache", name := "<init>", desc := "(ILMeshLines$Mesh;)V" } : Jvm.MethodName)) ∈ evW := evWi (tj_1 _ (List.mem_of_getElem? (i := 191) rfl)) rfl
set_option maxRecDepth 20000 in
theorem w_192 : (Jvm.Cond.code ({ cls := "MeshLines$Cache", name := "<init>", desc := "(ILMeshLines$Mesh;)V" } : Jvm.MethodName) prog_2_method_1_code (3 : Nat) (Option.none : Option Jvm.ClassFile.FieldType)) ∈ evW := evWi (tj_1 _ (List.mem_of_getElem? (i := 192) rfl)) rfl
set_option maxRecDepth 20000 in
theorem w_193 : (Jvm.Cond.methodLink "MeshLines$Cache" (3 : Nat) ({ cls := "java/lang/Object", name := "<init>", desc := "()V" } : Jvm.MethodName)) ∈ evW := evWi (tj_1 _ (List.mem_of_getElem? (i := 193) rfl)) rfl
set_option maxRecDepth 20000 in
theorem w_194 : (Jvm.Cond.fieldLink "MeshLines$Cache" (24 : Nat) "MeshLines$Cache" "node" "I") ∈ evW := evWi (tj_1 _ (List.mem_of_getElem? (i := 194) rfl)) rfl
set_option maxRecDepth 20000 in
theorem w_195 : (Jvm.Cond.fieldLink "MeshLines$Cache" (28 : Nat) "MeshLines$Cache" "mesh" "LMeshLines$Mesh;") ∈ evW := evWi (tj_1 _ (List.mem_of_getElem? (i := 195) rfl)) rfl
set_option maxRecDepth 20000 in
theorem w_196 : (Jvm.Cond.fieldLink "MeshLines$Cache" (9 : Nat) "MeshLines$Cache" "states" "[I") ∈ evW := evWi (tj_1 _ (List.mem_of_getElem? (i := 196) rfl)) rfl
set_option maxRecDepth 20000 in
theorem w_197 : (Jvm.Cond.fieldLink "MeshLines$Core" (41 : Nat) "MeshLines$Cache" "states" "[I") ∈ evW := evWi (tj_1 _ (List.mem_of_getElem? (i := 197) rfl)) rfl
set_option maxRecDepth 20000 in
theorem w_198 : (Jvm.Cond.fieldLink "MeshLines" (82 : Nat) "MeshLines$Cache" "states" "[I") ∈ evW := evWi (tj_1 _ (List.mem_of_getElem? (i := 198) rfl)) rfl
set_option maxRecDepth 20000 in
theorem w_199 : (Jvm.Cond.fieldLink "MeshLines$Cache" (15 : Nat) "MeshLines$Cache" "values" "[I") ∈ evW := evWi (tj_1 _ (List.mem_of_getElem? (i := 199) rfl)) rfl
set_option maxRecDepth 20000 in
theorem w_200 : (Jvm.Cond.fieldLink "MeshLines$Core" (65 : Nat) "MeshLines$Cache" "values" "[I") ∈ evW := evWi (tj_1 _ (List.mem_of_getElem? (i := 200) rfl)) rfl
set_option maxRecDepth 20000 in
theorem w_201 : (Jvm.Cond.fieldLink "MeshLines" (87 : Nat) "MeshLines$Cache" "values" "[I") ∈ evW := evWi (tj_1 _ (List.mem_of_getElem? (i := 201) rfl)) rfl
set_option maxRecDepth 20000 in
theorem w_202 : (Jvm.Cond.fieldLink "MeshLines$Cache" (18 : Nat) "MeshLines$Cache" "needs" "[I") ∈ evW := evWi (tj_1 _ (List.mem_of_getElem? (i := 202) rfl)) rfl
set_option maxRecDepth 20000 in
theorem w_203 : (Jvm.Cond.fieldLink "MeshLines" (90 : Nat) "MeshLines$Cache" "needs" "[I") ∈ evW := evWi (tj_1 _ (List.mem_of_getElem? (i := 203) rfl)) rfl
set_option maxRecDepth 20000 in
theorem w_204 : (Jvm.Cond.fieldLink "MeshLines$Cache" (21 : Nat) "MeshLines$Cache" "used" "[I") ∈ evW := evWi (tj_1 _ (List.mem_of_getElem? (i := 204) rfl)) rfl
set_option maxRecDepth 20000 in
theorem w_205 : (Jvm.Cond.fieldLink "MeshLines$Core" (66 : Nat) "MeshLines$Cache" "used" "[I") ∈ evW := evWi (tj_1 _ (List.mem_of_getElem? (i := 205) rfl)) rfl
set_option maxRecDepth 20000 in
theorem w_206 : (Jvm.Cond.fieldLink "MeshLines" (93 : Nat) "MeshLines$Cache" "used" "[I") ∈ evW := evWi (tj_1 _ (List.mem_of_getElem? (i := 206) rfl)) rfl
set_option maxRecDepth 20000 in
theorem w_207 : (Jvm.Cond.laysFinal "MeshLines$Cache" "MeshLines$Cache" "node" "I") ∈ evW := evWi (tj_1 _ (List.mem_of_getElem? (i := 207) rfl)) rfl
set_option maxRecDepth 20000 in
theorem w_209 : (Jvm.Cond.laysFinal "MeshLines$Cache" "MeshLines$Cache" "mesh" "LMeshLines$Mesh;") ∈ evW := evWi (tj_1 _ (List.mem_of_getElem? (i := 209) rfl)) rfl
set_option maxRecDepth 20000 in
theorem w_211 : (Jvm.Cond.laysFinal "MeshLines$Cache" "MeshLines$Cache" "states" "[I") ∈ evW := evWi (tj_1 _ (List.mem_of_getElem? (i := 211) rfl)) rfl
set_option maxRecDepth 20000 in
theorem w_213 : (Jvm.Cond.laysFinal "MeshLines$Cache" "MeshLines$Cache" "values" "[I") ∈ evW := evWi (tj_1 _ (List.mem_of_getElem? (i := 213) rfl)) rfl
set_option maxRecDepth 20000 in
theorem w_215 : (Jvm.Cond.laysFinal "MeshLines$Cache" "MeshLines$Cache" "needs" "[I") ∈ evW := evWi (tj_1 _ (List.mem_of_getElem? (i := 215) rfl)) rfl
set_option maxRecDepth 20000 in
theorem w_217 : (Jvm.Cond.laysFinal "MeshLines$Cache" "MeshLines$Cache" "used" "[I") ∈ evW := evWi (tj_1 _ (List.mem_of_getElem? (i := 217) rfl)) rfl
set_option maxRecDepth 20000 in
theorem w_220 : (Jvm.Cond.classLink "MeshLines$Node" (32 : Nat) "MeshLines$Core") ∈ evW := evWi (tj_1 _ (List.mem_of_getElem? (i := 220) rfl)) rfl
set_option maxRecDepth 20000 in
theorem w_221 : (Jvm.Cond.instantiable "MeshLines$Core" (9 : Nat)) ∈ evW := evWi (tj_1 _ (List.mem_of_getElem? (i := 221) rfl)) rfl
set_option maxRecDepth 20000 in
theorem w_222 : (Jvm.Cond.methodLink "MeshLines$Node" (34 : Nat) ({ cls := "MeshLines$Core", name := "<init>", desc := "(LMeshLines$Cache;)V" } : Jvm.MethodName)) ∈ evW := evWi (tj_1 _ (List.mem_of_getElem? (i := 222) rfl)) rfl
set_option maxRecDepth 20000 in
theorem w_223 : (Jvm.Cond.instanceMethod ({ cls := "MeshLines$Core", name := "<init>", desc := "(LMeshLines$Cache;)V" } : Jvm.MethodName)) ∈ evW := evWi (tj_1 _ (List.mem_of_getElem? (i := 223) rfl)) rfl
set_option maxRecDepth 20000 in
theorem w_224 : (Jvm.Cond.code ({ cls := "MeshLines$Core", name := "<init>", desc := "(LMeshLines$Cache;)V" } : Jvm.MethodName) prog_3_method_1_code (2 : Nat) (Option.none : Option Jvm.ClassFile.FieldType)) ∈ evW := evWi (tj_1 _ (List.mem_of_getElem? (i := 224) rfl)) rfl
set_option maxRecDepth 20000 in
theorem w_225 : (Jvm.Cond.methodLink "MeshLines$Core" (3 : Nat) ({ cls := "java/lang/Object", name := "<init>", desc := "()V" } : Jvm.MethodName)) ∈ evW := evWi (tj_1 _ (List.mem_of_getElem? (i := 225) rfl)) rfl
set_option maxRecDepth 20000 in
theorem w_226 : (Jvm.Cond.fieldLink "MeshLines$Core" (27 : Nat) "MeshLines$Core" "cache" "LMeshLines$Cache;") ∈ evW := evWi (tj_1 _ (List.mem_of_getElem? (i := 226) rfl)) rfl
set_option maxRecDepth 20000 in
theorem w_227 : (Jvm.Cond.fieldLink "MeshLines$Core" (9 : Nat) "MeshLines$Core" "kinds" "[I") ∈ evW := evWi (tj_1 _ (List.mem_of_getElem? (i := 227) rfl)) rfl
set_option maxRecDepth 20000 in
theorem w_228 : (Jvm.Cond.fieldLink "MeshLines$Core" (15 : Nat) "MeshLines$Core" "lines" "[I") ∈ evW := evWi (tj_1 _ (List.mem_of_getElem? (i := 228) rfl)) rfl
set_option maxRecDepth 20000 in
theorem w_229 : (Jvm.Cond.fieldLink "MeshLines$Core" (18 : Nat) "MeshLines$Core" "values" "[I") ∈ evW := evWi (tj_1 _ (List.mem_of_getElem? (i := 229) rfl)) rfl
set_option maxRecDepth 20000 in
theorem w_230 : (Jvm.Cond.fieldLink "MeshLines$Core" (21 : Nat) "MeshLines$Core" "delays" "[I") ∈ evW := evWi (tj_1 _ (List.mem_of_getElem? (i := 230) rfl)) rfl
set_option maxRecDepth 20000 in
theorem w_231 : (Jvm.Cond.fieldLink "MeshLines$Core" (24 : Nat) "MeshLines$Core" "results" "[I") ∈ evW := evWi (tj_1 _ (List.mem_of_getElem? (i := 231) rfl)) rfl
set_option maxRecDepth 20000 in
theorem w_232 : (Jvm.Cond.fieldLink "MeshLines" (74 : Nat) "MeshLines$Core" "results" "[I") ∈ evW := evWi (tj_1 _ (List.mem_of_getElem? (i := 232) rfl)) rfl
set_option maxRecDepth 20000 in
theorem w_233 : (Jvm.Cond.fieldLink "MeshLines$Core" (31 : Nat) "MeshLines$Core" "total" "I") ∈ evW := evWi (tj_1 _ (List.mem_of_getElem? (i := 233) rfl)) rfl
set_option maxRecDepth 20000 in
theorem w_234 : (Jvm.Cond.fieldLink "MeshLines$Core" (35 : Nat) "MeshLines$Core" "finished" "I") ∈ evW := evWi (tj_1 _ (List.mem_of_getElem? (i := 234) rfl)) rfl
set_option maxRecDepth 20000 in
theorem w_235 : (Jvm.Cond.fieldLink "MeshLines" (71 : Nat) "MeshLines$Core" "finished" "I") ∈ evW := evWi (tj_1 _ (List.mem_of_getElem? (i := 235) rfl)) rfl
set_option maxRecDepth 20000 in
theorem w_236 : (Jvm.Cond.fieldLink "MeshLines$Core" (38 : Nat) "MeshLines$Core" "finishedIn" "I") ∈ evW := evWi (tj_1 _ (List.mem_of_getElem? (i := 236) rfl)) rfl
set_option maxRecDepth 20000 in
theorem w_237 : (Jvm.Cond.laysFinal "MeshLines$Core" "MeshLines$Core" "cache" "LMeshLines$Cache;") ∈ evW := evWi (tj_1 _ (List.mem_of_getElem? (i := 237) rfl)) rfl
set_option maxRecDepth 20000 in
theorem w_239 : (Jvm.Cond.laysFinal "MeshLines$Core" "MeshLines$Core" "kinds" "[I") ∈ evW := evWi (tj_1 _ (List.mem_of_getElem? (i := 239) rfl)) rfl
set_option maxRecDepth 20000 in
theorem w_241 : (Jvm.Cond.laysFinal "MeshLines$Core" "MeshLines$Core" "lines" "[I") ∈ evW := evWi (tj_2 _ (List.mem_of_getElem? (i := 1) rfl)) rfl
set_option maxRecDepth 20000 in
theorem w_243 : (Jvm.Cond.laysFinal "MeshLines$Core" "MeshLines$Core" "values" "[I") ∈ evW := evWi (tj_2 _ (List.mem_of_getElem? (i := 3) rfl)) rfl
set_option maxRecDepth 20000 in
theorem w_245 : (Jvm.Cond.laysFinal "MeshLines$Core" "MeshLines$Core" "delays" "[I") ∈ evW := evWi (tj_2 _ (List.mem_of_getElem? (i := 5) rfl)) rfl
set_option maxRecDepth 20000 in
theorem w_247 : (Jvm.Cond.laysFinal "MeshLines$Core" "MeshLines$Core" "results" "[I") ∈ evW := evWi (tj_2 _ (List.mem_of_getElem? (i := 7) rfl)) rfl
set_option maxRecDepth 20000 in
theorem w_249 : (Jvm.Cond.lays "MeshLines$Core" "MeshLines$Core" "total" "I") ∈ evW := evWi (tj_2 _ (List.mem_of_getElem? (i := 9) rfl)) rfl
set_option maxRecDepth 20000 in
theorem w_251 : (Jvm.Cond.lays "MeshLines$Core" "MeshLines$Core" "finished" "I") ∈ evW := evWi (tj_2 _ (List.mem_of_getElem? (i := 11) rfl)) rfl
set_option maxRecDepth 20000 in
theorem w_253 : (Jvm.Cond.lays "MeshLines$Core" "MeshLines$Core" "finishedIn" "I") ∈ evW := evWi (tj_2 _ (List.mem_of_getElem? (i := 13) rfl)) rfl
set_option maxRecDepth 20000 in
theorem w_256 : (Jvm.Cond.fieldLink "MeshLines$Node" (9 : Nat) "MeshLines$Node" "number" "I") ∈ evW := evWi (tj_2 _ (List.mem_of_getElem? (i := 16) rfl)) rfl
set_option maxRecDepth 20000 in
theorem w_257 : (Jvm.Cond.fieldLink "MeshLines$Node" (15 : Nat) "MeshLines$Node" "mesh" "LMeshLines$Mesh;") ∈ evW := evWi (tj_2 _ (List.mem_of_getElem? (i := 17) rfl)) rfl
set_option maxRecDepth 20000 in
theorem w_258 : (Jvm.Cond.fieldLink "MeshLines$Node" (19 : Nat) "MeshLines$Node" "homes" "[LMeshLines$Home;") ∈ evW := evWi (tj_2 _ (List.mem_of_getElem? (i := 18) rfl)) rfl
set_option maxRecDepth 20000 in
theorem w_259 : (Jvm.Cond.fieldLink "MeshLines$Node" (28 : Nat) "MeshLines$Node" "cache" "LMeshLines$Cache;") ∈ evW := evWi (tj_2 _ (List.mem_of_getElem? (i := 19) rfl)) rfl
set_option maxRecDepth 20000 in
theorem w_260 : (Jvm.Cond.fieldLink "MeshLines" (78 : Nat) "MeshLines$Node" "cache" "LMeshLines$Cache;") ∈ evW := evWi (tj_2 _ (List.mem_of_getElem? (i := 20) rfl)) rfl
set_option maxRecDepth 20000 in
theorem w_261 : (Jvm.Cond.fieldLink "MeshLines$Node" (37 : Nat) "MeshLines$Node" "core" "LMeshLines$Core;") ∈ evW := evWi (tj_2 _ (List.mem_of_getElem? (i := 21) rfl)) rfl
set_option maxRecDepth 20000 in
theorem w_262 : (Jvm.Cond.fieldLink "MeshLines" (44 : Nat) "MeshLines$Node" "core" "LMeshLines$Core;") ∈ evW := evWi (tj_2 _ (List.mem_of_getElem? (i := 22) rfl)) rfl
set_option maxRecDepth 20000 in
theorem w_263 : (Jvm.Cond.laysFinal "MeshLines$Node" "MeshLines$Node" "number" "I") ∈ evW := evWi (tj_2 _ (List.mem_of_getElem? (i := 23) rfl)) rfl
set_option maxRecDepth 20000 in
theorem w_265 : (Jvm.Cond.laysFinal "MeshLines$Node" "MeshLines$Node" "mesh" "LMeshLines$Mesh;") ∈ evW := evWi (tj_2 _ (List.mem_of_getElem? (i := 25) rfl)) rfl
set_option maxRecDepth 20000 in
theorem w_267 : (Jvm.Cond.laysFinal "MeshLines$Node" "MeshLines$Node" "homes" "[LMeshLines$Home;") ∈ evW := evWi (tj_2 _ (List.mem_of_getElem? (i := 27) rfl)) rfl
set_option maxRecDepth 20000 in
theorem w_269 : (Jvm.Cond.laysFinal "MeshLines$Node" "MeshLines$Node" "cache" "LMeshLines$Cache;") ∈ evW := evWi (tj_2 _ (List.mem_of_getElem? (i := 29) rfl)) rfl
set_option maxRecDepth 20000 in
theorem w_271 : (Jvm.Cond.laysFinal "MeshLines$Node" "MeshLines$Node" "core" "LMeshLines$Core;") ∈ evW := evWi (tj_2 _ (List.mem_of_getElem? (i := 31) rfl)) rfl
set_option maxRecDepth 20000 in
theorem w_274 : (Jvm.Cond.fieldLink "MeshLines" (18 : Nat) "MeshLines" "mesh" "LMeshLines$Mesh;") ∈ evW := evWi (tj_2 _ (List.mem_of_getElem? (i := 34) rfl)) rfl
set_option maxRecDepth 20000 in
theorem w_275 : (Jvm.Cond.fieldLink "MeshLines" (24 : Nat) "MeshLines" "homes" "[LMeshLines$Home;") ∈ evW := evWi (tj_2 _ (List.mem_of_getElem? (i := 35) rfl)) rfl
set_option maxRecDepth 20000 in
theorem w_276 : (Jvm.Cond.fieldLink "MeshLines" (33 : Nat) "MeshLines" "nodes" "[LMeshLines$Node;") ∈ evW := evWi (tj_2 _ (List.mem_of_getElem? (i := 36) rfl)) rfl
set_option maxRecDepth 20000 in
theorem w_277 : (Jvm.Cond.fieldLink "MeshLines" (54 : Nat) "MeshLines" "cycle" "I") ∈ evW := evWi (tj_2 _ (List.mem_of_getElem? (i := 37) rfl)) rfl
set_option maxRecDepth 20000 in
theorem w_278 : (Jvm.Cond.laysFinal "MeshLines" "MeshLines" "mesh" "LMeshLines$Mesh;") ∈ evW := evWi (tj_2 _ (List.mem_of_getElem? (i := 38) rfl)) rfl
set_option maxRecDepth 20000 in
theorem w_280 : (Jvm.Cond.laysFinal "MeshLines" "MeshLines" "homes" "[LMeshLines$Home;") ∈ evW := evWi (tj_2 _ (List.mem_of_getElem? (i := 40) rfl)) rfl
set_option maxRecDepth 20000 in
theorem w_282 : (Jvm.Cond.laysFinal "MeshLines" "MeshLines" "nodes" "[LMeshLines$Node;") ∈ evW := evWi (tj_2 _ (List.mem_of_getElem? (i := 42) rfl)) rfl
set_option maxRecDepth 20000 in
theorem w_284 : (Jvm.Cond.lays "MeshLines" "MeshLines" "cycle" "I") ∈ evW := evWi (tj_2 _ (List.mem_of_getElem? (i := 44) rfl)) rfl
set_option maxRecDepth 20000 in
theorem w_287 : (Jvm.Cond.methodLink "MeshLinesLaw" (21 : Nat) ({ cls := "MeshLines", name := "operation", desc := "(IIIII)I" } : Jvm.MethodName)) ∈ evW := evWi (tj_2 _ (List.mem_of_getElem? (i := 47) rfl)) rfl
set_option maxRecDepth 20000 in
theorem w_288 : (Jvm.Cond.instanceMethod ({ cls := "MeshLines", name := "operation", desc := "(IIIII)I" } : Jvm.MethodName)) ∈ evW := evWi (tj_2 _ (List.mem_of_getElem? (i := 48) rfl)) rfl
set_option maxRecDepth 20000 in
theorem w_289 : (Jvm.Cond.selects "MeshLines" ({ cls := "MeshLines", name := "operation", desc := "(IIIII)I" } : Jvm.MethodName) ({ cls := "MeshLines", name := "operation", desc := "(IIIII)I" } : Jvm.MethodName)) ∈ evW := evWi (tj_2 _ (List.mem_of_getElem? (i := 49) rfl)) rfl
set_option maxRecDepth 20000 in
theorem w_290 : (Jvm.Cond.code ({ cls := "MeshLines", name := "operation", desc := "(IIIII)I" } : Jvm.MethodName) prog_1_method_2_code (6 : Nat) (Option.some Jvm.ClassFile.FieldType.int)) ∈ evW := evWi (tj_2 _ (List.mem_of_getElem? (i := 50) rfl)) rfl
set_option maxRecDepth 20000 in
theorem w_291 : (Jvm.Cond.methodLink "MeshLines" (40 : Nat) ({ cls := "MeshLines", name := "isBelow", desc := "(II)Z" } : Jvm.MethodName)) ∈ evW := evWi (tj_2 _ (List.mem_of_getElem? (i := 51) rfl)) rfl
set_option maxRecDepth 20000 in
theorem w_292 : (Jvm.Cond.static ({ cls := "MeshLines", name := "isBelow", desc := "(II)Z" } : Jvm.MethodName)) ∈ evW := evWi (tj_2 _ (List.mem_of_getElem? (i := 52) rfl)) rfl
set_option maxRecDepth 20000 in
theorem w_293 : (Jvm.Cond.code ({ cls := "MeshLines", name := "isBelow", desc := "(II)Z" } : Jvm.MethodName) prog_1_method_11_code (2 : Nat) (Option.some Jvm.ClassFile.FieldType.boolean)) ∈ evW := evWi (tj_2 _ (List.mem_of_getElem? (i := 53) rfl)) rfl
set_option maxRecDepth 20000 in
theorem w_294 : (Jvm.Cond.methodLink "MeshLines" (48 : Nat) ({ cls := "MeshLines$Core", name := "append", desc := "(IIII)I" } : Jvm.MethodName)) ∈ evW := evWi (tj_2 _ (List.mem_of_getElem? (i := 54) rfl)) rfl
set_option maxRecDepth 20000 in
theorem w_295 : (Jvm.Cond.instanceMethod ({ cls := "MeshLines$Core", name := "append", desc := "(IIII)I" } : Jvm.MethodName)) ∈ evW := evWi (tj_2 _ (List.mem_of_getElem? (i := 55) rfl)) rfl
set_option maxRecDepth 20000 in
theorem w_296 : (Jvm.Cond.selects "MeshLines$Core" ({ cls := "MeshLines$Core", name := "append", desc := "(IIII)I" } : Jvm.MethodName) ({ cls := "MeshLines$Core", name := "append", desc := "(IIII)I" } : Jvm.MethodName)) ∈ evW := evWi (tj_2 _ (List.mem_of_getElem? (i := 56) rfl)) rfl
set_option maxRecDepth 20000 in
theorem w_297 : (Jvm.Cond.code ({ cls := "MeshLines$Core", name := "append", desc := "(IIII)I" } : Jvm.MethodName) prog_3_method_2_code (5 : Nat) (Option.some Jvm.ClassFile.FieldType.int)) ∈ evW := evWi (tj_2 _ (List.mem_of_getElem? (i := 57) rfl)) rfl
set_option maxRecDepth 20000 in
theorem w_298 : (Jvm.Cond.methodLink "MeshLinesLaw" (26 : Nat) ({ cls := "MeshLines", name := "run", desc := "(I)I" } : Jvm.MethodName)) ∈ evW := evWi (tj_2 _ (List.mem_of_getElem? (i := 58) rfl)) rfl
set_option maxRecDepth 20000 in
theorem w_299 : (Jvm.Cond.instanceMethod ({ cls := "MeshLines", name := "run", desc := "(I)I" } : Jvm.MethodName)) ∈ evW := evWi (tj_2 _ (List.mem_of_getElem? (i := 59) rfl)) rfl
set_option maxRecDepth 20000 in
theorem w_300 : (Jvm.Cond.selects "MeshLines" ({ cls := "MeshLines", name := "run", desc := "(I)I" } : Jvm.MethodName) ({ cls := "MeshLines", name := "run", desc := "(I)I" } : Jvm.MethodName)) ∈ evW := evWi (tj_2 _ (List.mem_of_getElem? (i := 60) rfl)) rfl
set_option maxRecDepth 20000 in
theorem w_301 : (Jvm.Cond.code ({ cls := "MeshLines", name := "run", desc := "(I)I" } : Jvm.MethodName) prog_1_method_3_code (4 : Nat) (Option.some Jvm.ClassFile.FieldType.int)) ∈ evW := evWi (tj_2 _ (List.mem_of_getElem? (i := 61) rfl)) rfl
set_option maxRecDepth 20000 in
theorem w_302 : (Jvm.Cond.methodLink "MeshLines" (58 : Nat) ({ cls := "MeshLines$Mesh", name := "enterFlits", desc := "(I)V" } : Jvm.MethodName)) ∈ evW := evWi (tj_2 _ (List.mem_of_getElem? (i := 62) rfl)) rfl
set_option maxRecDepth 20000 in
theorem w_303 : (Jvm.Cond.instanceMethod ({ cls := "MeshLines$Mesh", name := "enterFlits", desc := "(I)V" } : Jvm.MethodName)) ∈ evW := evWi (tj_2 _ (List.mem_of_getElem? (i := 63) rfl)) rfl
set_option maxRecDepth 20000 in
theorem w_304 : (Jvm.Cond.selects "MeshLines$Mesh" ({ cls := "MeshLines$Mesh", name := "enterFlits", desc := "(I)V" } : Jvm.MethodName) ({ cls := "MeshLines$Mesh", name := "enterFlits", desc := "(I)V" } : Jvm.MethodName)) ∈ evW := evWi (tj_2 _ (List.mem_of_getElem? (i := 64) rfl)) rfl
set_option maxRecDepth 20000 in
theorem w_305 : (Jvm.Cond.code ({ cls := "MeshLines$Mesh", name := "enterFlits", desc := "(I)V" } : Jvm.MethodName) prog_8_method_4_code (3 : Nat) (Option.none : Option Jvm.ClassFile.FieldType)) ∈ evW := evWi (tj_2 _ (List.mem_of_getElem? (i := 65) rfl)) rfl
set_option maxRecDepth 20000 in
theorem w_306 : (Jvm.Cond.methodLink "MeshLines$Mesh" (50 : Nat) ({ cls := "MeshLines$Lane", name := "enterFlit", desc := "(I)V" } : Jvm.MethodName)) ∈ evW := evWi (tj_2 _ (List.mem_of_getElem? (i := 66) rfl)) rfl
set_option maxRecDepth 20000 in
theorem w_307 : (Jvm.Cond.instanceMethod ({ cls := "MeshLines$Lane", name := "enterFlit", desc := "(I)V" } : Jvm.MethodName)) ∈ evW := evWi (tj_2 _ (List.mem_of_getElem? (i := 67) rfl)) rfl
set_option maxRecDepth 20000 in
theorem w_308 : (Jvm.Cond.selects "MeshLines$Lane" ({ cls := "MeshLines$Lane", name := "enterFlit", desc := "(I)V" } : Jvm.MethodName) ({ cls := "MeshLines$Lane", name := "enterFlit", desc := "(I)V" } : Jvm.MethodName)) ∈ evW := evWi (tj_2 _ (List.mem_of_getElem? (i := 68) rfl)) rfl
set_option maxRecDepth 20000 in
theorem w_309 : (Jvm.Cond.code ({ cls := "MeshLines$Lane", name := "enterFlit", desc := "(I)V" } : Jvm.MethodName) prog_7_method_2_code (3 : Nat) (Option.none : Option Jvm.ClassFile.FieldType)) ∈ evW := evWi (tj_2 _ (List.mem_of_getElem? (i := 69) rfl)) rfl
set_option maxRecDepth 20000 in
theorem w_310 : (Jvm.Cond.methodLink "MeshLines$Lane" (41 : Nat) ({ cls := "java/util/ArrayList", name := "isEmpty", desc := "()Z" } : Jvm.MethodName)) ∈ evW := evWi (tj_2 _ (List.mem_of_getElem? (i := 70) rfl)) rfl
set_option maxRecDepth 20000 in
theorem w_311 : (Jvm.Cond.instanceMethod ({ cls := "java/util/ArrayList", name := "isEmpty", desc := "()Z" } : Jvm.MethodName)) ∈ evW := evWi (tj_2 _ (List.mem_of_getElem? (i := 71) rfl)) rfl
set_option maxRecDepth 20000 in
theorem w_312 : (Jvm.Cond.selects "java/util/ArrayList" ({ cls := "java/util/ArrayList", name := "isEmpty", desc := "()Z" } : Jvm.MethodName) ({ cls := "java/util/ArrayList", name := "isEmpty", desc := "()Z" } : Jvm.MethodName)) ∈ evW := evWi (tj_2 _ (List.mem_of_getElem? (i := 72) rfl)) rfl
set_option maxRecDepth 20000 in
theorem w_313 : (Jvm.Cond.code ({ cls := "java/util/ArrayList", name := "isEmpty", desc := "()Z" } : Jvm.MethodName) prog_21_method_9_code (1 : Nat) (Option.some Jvm.ClassFile.FieldType.boolean)) ∈ evW := evWi (tj_2 _ (List.mem_of_getElem? (i := 73) rfl)) rfl
set_option maxRecDepth 20000 in
theorem w_314 : (Jvm.Cond.methodLink "MeshLines$Lane" (45 : Nat) ({ cls := "MeshLines$FlitBuffer", name := "hasRoom", desc := "()Z" } : Jvm.MethodName)) ∈ evW := evWi (tj_2 _ (List.mem_of_getElem? (i := 74) rfl)) rfl
set_option maxRecDepth 20000 in
theorem w_315 : (Jvm.Cond.instanceMethod ({ cls := "MeshLines$FlitBuffer", name := "hasRoom", desc := "()Z" } : Jvm.MethodName)) ∈ evW := evWi (tj_2 _ (List.mem_of_getElem? (i := 75) rfl)) rfl
set_option maxRecDepth 20000 in
theorem w_316 : (Jvm.Cond.selects "MeshLines$FlitBuffer" ({ cls := "MeshLines$FlitBuffer", name := "hasRoom", desc := "()Z" } : Jvm.MethodName) ({ cls := "MeshLines$FlitBuffer", name := "hasRoom", desc := "()Z" } : Jvm.MethodName)) ∈ evW := evWi (tj_2 _ (List.mem_of_getElem? (i := 76) rfl)) rfl
set_option maxRecDepth 20000 in
theorem w_317 : (Jvm.Cond.code ({ cls := "MeshLines$FlitBuffer", name := "hasRoom", desc := "()Z" } : Jvm.MethodName) prog_5_method_2_code (1 : Nat) (Option.some Jvm.ClassFile.FieldType.boolean)) ∈ evW := evWi (tj_2 _ (List.mem_of_getElem? (i := 77) rfl)) rfl
set_option maxRecDepth 20000 in
theorem w_318 : (Jvm.Cond.classLink "MeshLines$Lane" (48 : Nat) "MeshLines$Flit") ∈ evW := evWi (tj_2 _ (List.mem_of_getElem? (i := 78) rfl)) rfl
set_option maxRecDepth 20000 in
theorem w_319 : (Jvm.Cond.instantiable "MeshLines$Flit" (4 : Nat)) ∈ evW := evWi (tj_2 _ (List.mem_of_getElem? (i := 79) rfl)) rfl
set_option maxRecDepth 20000 in
theorem w_320 : (Jvm.Cond.methodLink "MeshLines$Lane" (50 : Nat) ({ cls := "java/util/ArrayList", name := "get", desc := "(I)Ljava/lang/Object;" } : Jvm.MethodName)) ∈ evW := evWi (tj_2 _ (List.mem_of_getElem? (i := 80) rfl)) rfl
set_option maxRecDepth 20000 in
theorem w_321 : (Jvm.Cond.instanceMethod ({ cls := "java/util/ArrayList", name := "get", desc := "(I)Ljava/lang/Object;" } : Jvm.MethodName)) ∈ evW := evWi (tj_2 _ (List.mem_of_getElem? (i := 81) rfl)) rfl
set_option maxRecDepth 20000 in
theorem w_322 : (Jvm.Cond.selects "java/util/ArrayList" ({ cls := "java/util/ArrayList", name := "get", desc := "(I)Ljava/lang/Object;" } : Jvm.MethodName) ({ cls := "java/util/ArrayList", name := "get", desc := "(I)Ljava/lang/Object;" } : Jvm.MethodName)) ∈ evW := evWi (tj_2 _ (List.mem_of_getElem? (i := 82) rfl)) rfl
set_option maxRecDepth 20000 in
theorem w_323 : (Jvm.Cond.code ({ cls := "java/util/ArrayList", name := "get", desc := "(I)Ljava/lang/Object;" } : Jvm.MethodName) prog_21_method_20_code (2 : Nat) (Option.some (Jvm.ClassFile.FieldType.object "java/lang/Object"))) ∈ evW := evWi (tj_2 _ (List.mem_of_getElem? (i := 83) rfl)) rfl
set_option maxRecDepth 20000 in
theorem w_324 : (Jvm.Cond.methodLink "java/util/ArrayList" (118 : Nat) ({ cls := "java/util/Objects", name := "checkIndex", desc := "(II)I" } : Jvm.MethodName)) ∈ evW := evWi (tj_2 _ (List.mem_of_getElem? (i := 84) rfl)) rfl
set_option maxRecDepth 20000 in
theorem w_325 : (Jvm.Cond.static ({ cls := "java/util/Objects", name := "checkIndex", desc := "(II)I" } : Jvm.MethodName)) ∈ evW := evWi (tj_2 _ (List.mem_of_getElem? (i := 85) rfl)) rfl
set_option maxRecDepth 20000 in
theorem w_326 : (Jvm.Cond.code ({ cls := "java/util/Objects", name := "checkIndex", desc := "(II)I" } : Jvm.MethodName) prog_25_method_17_code (2 : Nat) (Option.some Jvm.ClassFile.FieldType.int)) ∈ evW := evWi (tj_2 _ (List.mem_of_getElem? (i := 86) rfl)) rfl
set_option maxRecDepth 20000 in
theorem w_327 : (Jvm.Cond.methodLink "java/util/Objects" (105 : Nat) ({ cls := "jdk/internal/util/Preconditions", name := "checkIndex", desc := "(IILjava/util/function/BiFunction;)I" } : Jvm.MethodName)) ∈ evW := evWi (tj_2 _ (List.mem_of_getElem? (i := 87) rfl)) rfl
set_option maxRecDepth 20000 in
theorem w_328 : (Jvm.Cond.static ({ cls := "jdk/internal/util/Preconditions", name := "checkIndex", desc := "(IILjava/util/function/BiFunction;)I" } : Jvm.MethodName)) ∈ evW := evWi (tj_2 _ (List.mem_of_getElem? (i := 88) rfl)) rfl
set_option maxRecDepth 20000 in
theorem w_329 : (Jvm.Cond.code ({ cls := "jdk/internal/util/Preconditions", name := "checkIndex", desc := "(IILjava/util/function/BiFunction;)I" } : Jvm.MethodName) prog_29_method_11_code (3 : Nat) (Option.some Jvm.ClassFile.FieldType.int)) ∈ evW := evWi (tj_2 _ (List.mem_of_getElem? (i := 89) rfl)) rfl
set_option maxRecDepth 20000 in
theorem w_330 : (Jvm.Cond.methodLink "java/util/ArrayList" (123 : Nat) ({ cls := "java/util/ArrayList", name := "elementData", desc := "(I)Ljava/lang/Object;" } : Jvm.MethodName)) ∈ evW := evWi (tj_2 _ (List.mem_of_getElem? (i := 90) rfl)) rfl
set_option maxRecDepth 20000 in
theorem w_331 : (Jvm.Cond.instanceMethod ({ cls := "java/util/ArrayList", name := "elementData", desc := "(I)Ljava/lang/Object;" } : Jvm.MethodName)) ∈ evW := evWi (tj_2 _ (List.mem_of_getElem? (i := 91) rfl)) rfl
set_option maxRecDepth 20000 in
theorem w_332 : (Jvm.Cond.selects "java/util/ArrayList" ({ cls := "java/util/ArrayList", name := "elementData", desc := "(I)Ljava/lang/Object;" } : Jvm.MethodName) ({ cls := "java/util/ArrayList", name := "elementData", desc := "(I)Ljava/lang/Object;" } : Jvm.MethodName)) ∈ evW := evWi (tj_2 _ (List.mem_of_getElem? (i := 92) rfl)) rfl
set_option maxRecDepth 20000 in
theorem w_333 : (Jvm.Cond.code ({ cls := "java/util/ArrayList", name := "elementData", desc := "(I)Ljava/lang/Object;" } : Jvm.MethodName) prog_21_method_18_code (2 : Nat) (Option.some (Jvm.ClassFile.FieldType.object "java/lang/Object"))) ∈ evW := evWi (tj_2 _ (List.mem_of_getElem? (i := 93) rfl)) rfl
set_option maxRecDepth 20000 in
theorem w_334 : (Jvm.Cond.classLink "MeshLines$Lane" (54 : Nat) "MeshLines$Packet") ∈ evW := evWi (tj_2 _ (List.mem_of_getElem? (i := 94) rfl)) rfl
set_option maxRecDepth 20000 in
theorem w_335 : (Jvm.Cond.methodLink "MeshLines$Lane" (59 : Nat) ({ cls := "MeshLines$Flit", name := "<init>", desc := "(LMeshLines$Packet;I)V" } : Jvm.MethodName)) ∈ evW := evWi (tj_2 _ (List.mem_of_getElem? (i := 95) rfl)) rfl
set_option maxRecDepth 20000 in
theorem w_336 : (Jvm.Cond.instanceMethod ({ cls := "MeshLines$Flit", name := "<init>", desc := "(LMeshLines$Packet;I)V" } : Jvm.MethodName)) ∈ evW := evWi (tj_2 _ (List.mem_of_getElem? (i := 96) rfl)) rfl
set_option maxRecDepth 20000 in
theorem w_337 : (Jvm.Cond.code ({ cls := "MeshLines$Flit", name := "<init>", desc := "(LMeshLines$Packet;I)V" } : Jvm.MethodName) prog_4_method_1_code (3 : Nat) (Option.none : Option Jvm.ClassFile.FieldType)) ∈ evW := evWi (tj_2 _ (List.mem_of_getElem? (i := 97) rfl)) rfl
set_option maxRecDepth 20000 in
theorem w_338 : (Jvm.Cond.methodLink "MeshLines$Flit" (1 : Nat) ({ cls := "java/lang/Object", name := "<init>", desc := "()V" } : Jvm.MethodName)) ∈ evW := evWi (tj_2 _ (List.mem_of_getElem? (i := 98) rfl)) rfl
set_option maxRecDepth 20000 in
theorem w_339 : (Jvm.Cond.fieldLink "MeshLines$Flit" (7 : Nat) "MeshLines$Flit" "packet" "LMeshLines$Packet;") ∈ evW := evWi (tj_2 _ (List.mem_of_getElem? (i := 99) rfl)) rfl
set_option maxRecDepth 20000 in
theorem w_340 : (Jvm.Cond.fieldLink "MeshLines$Lane" (80 : Nat) "MeshLines$Flit" "packet" "LMeshLines$Packet;") ∈ evW := evWi (tj_2 _ (List.mem_of_getElem? (i := 100) rfl)) rfl
set_option maxRecDepth 20000 in
theorem w_341 : (Jvm.Cond.fieldLink "MeshLines$Mesh" (113 : Nat) "MeshLines$Flit" "packet" "LMeshLines$Packet;") ∈ evW := evWi (tj_2 _ (List.mem_of_getElem? (i := 101) rfl)) rfl
set_option maxRecDepth 20000 in
theorem w_342 : (Jvm.Cond.fieldLink "MeshLines$Flit" (13 : Nat) "MeshLines$Flit" "isHead" "Z") ∈ evW := evWi (tj_2 _ (List.mem_of_getElem? (i := 102) rfl)) rfl
set_option maxRecDepth 20000 in
theorem w_343 : (Jvm.Cond.fieldLink "MeshLines$Lane" (77 : Nat) "MeshLines$Flit" "isHead" "Z") ∈ evW := evWi (tj_2 _ (List.mem_of_getElem? (i := 103) rfl)) rfl
set_option maxRecDepth 20000 in
theorem w_344 : (Jvm.Cond.fieldLink "MeshLines$Flit" (23 : Nat) "MeshLines$Flit" "isLast" "Z") ∈ evW := evWi (tj_2 _ (List.mem_of_getElem? (i := 104) rfl)) rfl
set_option maxRecDepth 20000 in
theorem w_345 : (Jvm.Cond.fieldLink "MeshLines$Lane" (66 : Nat) "MeshLines$Flit" "isLast" "Z") ∈ evW := evWi (tj_2 _ (List.mem_of_getElem? (i := 105) rfl)) rfl
set_option maxRecDepth 20000 in
theorem w_346 : (Jvm.Cond.fieldLink "MeshLines$Mesh" (106 : Nat) "MeshLines$Flit" "isLast" "Z") ∈ evW := evWi (tj_2 _ (List.mem_of_getElem? (i := 106) rfl)) rfl
set_option maxRecDepth 20000 in
theorem w_347 : (Jvm.Cond.fieldLink "MeshLines$FlitBuffer" (23 : Nat) "MeshLines$Flit" "cameIn" "I") ∈ evW := evWi (tj_2 _ (List.mem_of_getElem? (i := 107) rfl)) rfl
set_option maxRecDepth 20000 in
theorem w_348 : (Jvm.Cond.fieldLink "MeshLines$Mesh" (79 : Nat) "MeshLines$Flit" "cameIn" "I") ∈ evW := evWi (tj_2 _ (List.mem_of_getElem? (i := 108) rfl)) rfl
set_option maxRecDepth 20000 in
theorem w_349 : (Jvm.Cond.laysFinal "MeshLines$Flit" "MeshLines$Flit" "packet" "LMeshLines$Packet;") ∈ evW := evWi (tj_2 _ (List.mem_of_getElem? (i := 109) rfl)) rfl
set_option maxRecDepth 20000 in
theorem w_351 : (Jvm.Cond.laysFinal "MeshLines$Flit" "MeshLines$Flit" "isHead" "Z") ∈ evW := evWi (tj_2 _ (List.mem_of_getElem? (i := 111) rfl)) rfl
set_option maxRecDepth 20000 in
theorem w_353 : (Jvm.Cond.laysFinal "MeshLines$Flit" "MeshLines$Flit" "isLast" "Z") ∈ evW := evWi (tj_2 _ (List.mem_of_getElem? (i := 113) rfl)) rfl
set_option maxRecDepth 20000 in
theorem w_355 : (Jvm.Cond.lays "MeshLines$Flit" "MeshLines$Flit" "cameIn" "I") ∈ evW := evWi (tj_2 _ (List.mem_of_getElem? (i := 115) rfl)) rfl
set_option maxRecDepth 20000 in
theorem w_358 : (Jvm.Cond.methodLink "MeshLines$Lane" (62 : Nat) ({ cls := "MeshLines$FlitBuffer", name := "put", desc := "(LMeshLines$Flit;I)V" } : Jvm.MethodName)) ∈ evW := evWi (tj_2 _ (List.mem_of_getElem? (i := 118) rfl)) rfl
set_option maxRecDepth 20000 in
theorem w_359 : (Jvm.Cond.instanceMethod ({ cls := "MeshLines$FlitBuffer", name := "put", desc := "(LMeshLines$Flit;I)V" } : Jvm.MethodName)) ∈ evW := evWi (tj_2 _ (List.mem_of_getElem? (i := 119) rfl)) rfl
set_option maxRecDepth 20000 in
theorem w_360 : (Jvm.Cond.selects "MeshLines$FlitBuffer" ({ cls := "MeshLines$FlitBuffer", name := "put", desc := "(LMeshLines$Flit;I)V" } : Jvm.MethodName) ({ cls := "MeshLines$FlitBuffer", name := "put", desc := "(LMeshLines$Flit;I)V" } : Jvm.MethodName)) ∈ evW := evWi (tj_2 _ (List.mem_of_getElem? (i := 120) rfl)) rfl
set_option maxRecDepth 20000 in
theorem w_361 : (Jvm.Cond.code ({ cls := "MeshLines$FlitBuffer", name := "put", desc := "(LMeshLines$Flit;I)V" } : Jvm.MethodName) prog_5_method_4_code (3 : Nat) (Option.none : Option Jvm.ClassFile.FieldType)) ∈ evW := evWi (tj_2 _ (List.mem_of_getElem? (i := 121) rfl)) rfl
set_option maxRecDepth 20000 in
theorem w_362 : (Jvm.Cond.methodLink "MeshLines$FlitBuffer" (19 : Nat) ({ cls := "MeshLines$FlitBuffer", name := "hasRoom", desc := "()Z" } : Jvm.MethodName)) ∈ evW := evWi (tj_2 _ (List.mem_of_getElem? (i := 122) rfl)) rfl
set_option maxRecDepth 20000 in
theorem w_363 : (Jvm.Cond.methodLink "MeshLines$Lane" (70 : Nat) ({ cls := "java/util/ArrayList", name := "remove", desc := "(I)Ljava/lang/Object;" } : Jvm.MethodName)) ∈ evW := evWi (tj_2 _ (List.mem_of_getElem? (i := 123) rfl)) rfl
set_option maxRecDepth 20000 in
theorem w_364 : (Jvm.Cond.instanceMethod ({ cls := "java/util/ArrayList", name := "remove", desc := "(I)Ljava/lang/Object;" } : Jvm.MethodName)) ∈ evW := evWi (tj_2 _ (List.mem_of_getElem? (i := 124) rfl)) rfl
set_option maxRecDepth 20000 in
theorem w_365 : (Jvm.Cond.selects "java/util/ArrayList" ({ cls := "java/util/ArrayList", name := "remove", desc := "(I)Ljava/lang/Object;" } : Jvm.MethodName) ({ cls := "java/util/ArrayList", name := "remove", desc := "(I)Ljava/lang/Object;" } : Jvm.MethodName)) ∈ evW := evWi (tj_2 _ (List.mem_of_getElem? (i := 125) rfl)) rfl
set_option maxRecDepth 20000 in
theorem w_366 : (Jvm.Cond.code ({ cls := "java/util/ArrayList", name := "remove", desc := "(I)Ljava/lang/Object;" } : Jvm.MethodName) prog_21_method_29_code (4 : Nat) (Option.some (Jvm.ClassFile.FieldType.object "java/lang/Object"))) ∈ evW := evWi (tj_2 _ (List.mem_of_getElem? (i := 126) rfl)) rfl
set_option maxRecDepth 20000 in
theorem w_367 : (Jvm.Cond.methodLink "java/util/ArrayList" (144 : Nat) ({ cls := "java/util/ArrayList", name := "fastRemove", desc := "([Ljava/lang/Object;I)V" } : Jvm.MethodName)) ∈ evW := evWi (tj_2 _ (List.mem_of_getElem? (i := 127) rfl)) rfl
set_option maxRecDepth 20000 in
theorem w_369 : (Jvm.Cond.instanceMethod ({ cls := "java/util/ArrayList", name := "fastRemove", desc := "([Ljava/lang/Object;I)V" } : Jvm.MethodName)) ∈ evW := evWi (tj_2 _ (List.mem_of_getElem? (i := 129) rfl)) rfl
set_option maxRecDepth 20000 in
theorem w_370 : (Jvm.Cond.code ({ cls := "java/util/ArrayList", name := "fastRemove", desc := "([Ljava/lang/Object;I)V" } : Jvm.MethodName) prog_21_method_39_code (4 : Nat) (Option.none : Option Jvm.ClassFile.FieldType)) ∈ evW := evWi (tj_2 _ (List.mem_of_getElem? (i := 130) rfl)) rfl
set_option maxRecDepth 20000 in
theorem w_371 : (Jvm.Cond.methodLink "java/util/ArrayList" (112 : Nat) ({ cls := "java/lang/System", name := "arraycopy", desc := "(Ljava/lang/Object;ILjava/lang/Object;II)V" } : Jvm.MethodName)) ∈ evW := evWi (tj_2 _ (List.mem_of_getElem? (i := 131) rfl)) rfl
set_option maxRecDepth 20000 in
theorem w_372 : (Jvm.Cond.static ({ cls := "java/lang/System", name := "arraycopy", desc := "(Ljava/lang/Object;ILjava/lang/Object;II)V" } : Jvm.MethodName)) ∈ evW := evWi (tj_2 _ (List.mem_of_getElem? (i := 132) rfl)) rfl
set_option maxRecDepth 20000 in
theorem w_373 : (Jvm.Cond.native ({ cls := "java/lang/System", name := "arraycopy", desc := "(Ljava/lang/Object;ILjava/lang/Object;II)V" } : Jvm.MethodName)) ∈ evW := evWi (tj_2 _ (List.mem_of_getElem? (i := 133) rfl)) rfl
set_option maxRecDepth 20000 in
theorem w_374 : (Jvm.Cond.methodLink "MeshLines" (62 : Nat) ({ cls := "MeshLines$Mesh", name := "moveFlits", desc := "(I)V" } : Jvm.MethodName)) ∈ evW := evWi (tj_2 _ (List.mem_of_getElem? (i := 134) rfl)) rfl
set_option maxRecDepth 20000 in
theorem w_375 : (Jvm.Cond.instanceMethod ({ cls := "MeshLines$Mesh", name := "moveFlits", desc := "(I)V" } : Jvm.MethodName)) ∈ evW := evWi (tj_2 _ (List.mem_of_getElem? (i := 135) rfl)) rfl
set_option maxRecDepth 20000 in
theorem w_376 : (Jvm.Cond.selects "MeshLines$Mesh" ({ cls := "MeshLines$Mesh", name := "moveFlits", desc := "(I)V" } : Jvm.MethodName) ({ cls := "MeshLines$Mesh", name := "moveFlits", desc := "(I)V" } : Jvm.MethodName)) ∈ evW := evWi (tj_2 _ (List.mem_of_getElem? (i := 136) rfl)) rfl
set_option maxRecDepth 20000 in
theorem w_377 : (Jvm.Cond.code ({ cls := "MeshLines$Mesh", name := "moveFlits", desc := "(I)V" } : Jvm.MethodName) prog_8_method_5_code (4 : Nat) (Option.none : Option Jvm.ClassFile.FieldType)) ∈ evW := evWi (tj_2 _ (List.mem_of_getElem? (i := 137) rfl)) rfl
set_option maxRecDepth 20000 in
theorem w_378 : (Jvm.Cond.methodLink "MeshLines$Mesh" (57 : Nat) ({ cls := "MeshLines$Mesh", name := "moveOneFlit", desc := "(III)V" } : Jvm.MethodName)) ∈ evW := evWi (tj_2 _ (List.mem_of_getElem? (i := 138) rfl)) rfl
set_option maxRecDepth 20000 in
theorem w_380 : (Jvm.Cond.instanceMethod ({ cls := "MeshLines$Mesh", name := "moveOneFlit", desc := "(III)V" } : Jvm.MethodName)) ∈ evW := evWi (tj_2 _ (List.mem_of_getElem? (i := 140) rfl)) rfl
set_option maxRecDepth 20000 in
theorem w_381 : (Jvm.Cond.code ({ cls := "MeshLines$Mesh", name := "moveOneFlit", desc := "(III)V" } : Jvm.MethodName) prog_8_method_6_code (6 : Nat) (Option.none : Option Jvm.ClassFile.FieldType)) ∈ evW := evWi (tj_2 _ (List.mem_of_getElem? (i := 141) rfl)) rfl
set_option maxRecDepth 20000 in
theorem w_382 : (Jvm.Cond.methodLink "MeshLines$Mesh" (61 : Nat) ({ cls := "MeshLines$Mesh", name := "moveFlitOf", desc := "(IIII)Z" } : Jvm.MethodName)) ∈ evW := evWi (tj_2 _ (List.mem_of_getElem? (i := 142) rfl)) rfl
set_option maxRecDepth 20000 in
theorem w_384 : (Jvm.Cond.instanceMethod ({ cls := "MeshLines$Mesh", name := "moveFlitOf", desc := "(IIII)Z" } : Jvm.MethodName)) ∈ evW := evWi (tj_2 _ (List.mem_of_getElem? (i := 144) rfl)) rfl
set_option maxRecDepth 20000 in
theorem w_385 : (Jvm.Cond.code ({ cls := "MeshLines$Mesh", name := "moveFlitOf", desc := "(IIII)Z" } : Jvm.MethodName) prog_8_method_7_code (9 : Nat) (Option.some Jvm.ClassFile.FieldType.boolean)) ∈ evW := evWi (tj_2 _ (List.mem_of_getElem? (i := 145) rfl)) rfl
set_option maxRecDepth 20000 in
theorem w_386 : (Jvm.Cond.methodLink "MeshLines$Mesh" (33 : Nat) ({ cls := "MeshLines$Mesh", name := "laneOf", desc := "(II)LMeshLines$Lane;" } : Jvm.MethodName)) ∈ evW := evWi (tj_2 _ (List.mem_of_getElem? (i := 146) rfl)) rfl
set_option maxRecDepth 20000 in
theorem w_387 : (Jvm.Cond.instanceMethod ({ cls := "MeshLines$Mesh", name := "laneOf", desc := "(II)LMeshLines$Lane;" } : Jvm.MethodName)) ∈ evW := evWi (tj_2 _ (List.mem_of_getElem? (i := 147) rfl)) rfl
set_option maxRecDepth 20000 in
theorem w_388 : (Jvm.Cond.selects "MeshLines$Mesh" ({ cls := "MeshLines$Mesh", name := "laneOf", desc := "(II)LMeshLines$Lane;" } : Jvm.MethodName) ({ cls := "MeshLines$Mesh", name := "laneOf", desc := "(II)LMeshLines$Lane;" } : Jvm.MethodName)) ∈ evW := evWi (tj_2 _ (List.mem_of_getElem? (i := 148) rfl)) rfl
set_option maxRecDepth 20000 in
theorem w_389 : (Jvm.Cond.code ({ cls := "MeshLines$Mesh", name := "laneOf", desc := "(II)LMeshLines$Lane;" } : Jvm.MethodName) prog_8_method_2_code (3 : Nat) (Option.some (Jvm.ClassFile.FieldType.object "MeshLines$Lane"))) ∈ evW := evWi (tj_2 _ (List.mem_of_getElem? (i := 149) rfl)) rfl
set_option maxRecDepth 20000 in
theorem w_390 : (Jvm.Cond.methodLink "MeshLines$Mesh" (65 : Nat) ({ cls := "MeshLines$Lane", name := "portFor", desc := "(I)I" } : Jvm.MethodName)) ∈ evW := evWi (tj_2 _ (List.mem_of_getElem? (i := 150) rfl)) rfl
set_option maxRecDepth 20000 in
theorem w_391 : (Jvm.Cond.instanceMethod ({ cls := "MeshLines$Lane", name := "portFor", desc := "(I)I" } : Jvm.MethodName)) ∈ evW := evWi (tj_2 _ (List.mem_of_getElem? (i := 151) rfl)) rfl
set_option maxRecDepth 20000 in
theorem w_392 : (Jvm.Cond.selects "MeshLines$Lane" ({ cls := "MeshLines$Lane", name := "portFor", desc := "(I)I" } : Jvm.MethodName) ({ cls := "MeshLines$Lane", name := "portFor", desc := "(I)I" } : Jvm.MethodName)) ∈ evW := evWi (tj_2 _ (List.mem_of_getElem? (i := 152) rfl)) rfl
set_option maxRecDepth 20000 in
theorem w_393 : (Jvm.Cond.code ({ cls := "MeshLines$Lane", name := "portFor", desc := "(I)I" } : Jvm.MethodName) prog_7_method_3_code (5 : Nat) (Option.some Jvm.ClassFile.FieldType.int)) ∈ evW := evWi (tj_2 _ (List.mem_of_getElem? (i := 153) rfl)) rfl
set_option maxRecDepth 20000 in
theorem w_394 : (Jvm.Cond.methodLink "MeshLines$Lane" (73 : Nat) ({ cls := "MeshLines$FlitBuffer", name := "front", desc := "()LMeshLines$Flit;" } : Jvm.MethodName)) ∈ evW := evWi (tj_2 _ (List.mem_of_getElem? (i := 154) rfl)) rfl
set_option maxRecDepth 20000 in
theorem w_395 : (Jvm.Cond.instanceMethod ({ cls := "MeshLines$FlitBuffer", name := "front", desc := "()LMeshLines$Flit;" } : Jvm.MethodName)) ∈ evW := evWi (tj_2 _ (List.mem_of_getElem? (i := 155) rfl)) rfl
set_option maxRecDepth 20000 in
theorem w_396 : (Jvm.Cond.selects "MeshLines$FlitBuffer" ({ cls := "MeshLines$FlitBuffer", name := "front", desc := "()LMeshLines$Flit;" } : Jvm.MethodName) ({ cls := "MeshLines$FlitBuffer", name := "front", desc := "()LMeshLines$Flit;" } : Jvm.MethodName)) ∈ evW := evWi (tj_2 _ (List.mem_of_getElem? (i := 156) rfl)) rfl
set_option maxRecDepth 20000 in
theorem w_397 : (Jvm.Cond.code ({ cls := "MeshLines$FlitBuffer", name := "front", desc := "()LMeshLines$Flit;" } : Jvm.MethodName) prog_5_method_3_code (1 : Nat) (Option.some (Jvm.ClassFile.FieldType.object "MeshLines$Flit"))) ∈ evW := evWi (tj_2 _ (List.mem_of_getElem? (i := 157) rfl)) rfl
set_option maxRecDepth 20000 in
theorem w_398 : (Jvm.Cond.methodLink "MeshLines$Lane" (87 : Nat) ({ cls := "MeshLines$Lane", name := "wayTo", desc := "(I)I" } : Jvm.MethodName)) ∈ evW := evWi (tj_2 _ (List.mem_of_getElem? (i := 158) rfl)) rfl
set_option maxRecDepth 20000 in
theorem w_400 : (Jvm.Cond.instanceMethod ({ cls := "MeshLines$Lane", name := "wayTo", desc := "(I)I" } : Jvm.MethodName)) ∈ evW := evWi (tj_2 _ (List.mem_of_getElem? (i := 160) rfl)) rfl
set_option maxRecDepth 20000 in
theorem w_401 : (Jvm.Cond.code ({ cls := "MeshLines$Lane", name := "wayTo", desc := "(I)I" } : Jvm.MethodName) prog_7_method_4_code (4 : Nat) (Option.some Jvm.ClassFile.FieldType.int)) ∈ evW := evWi (tj_2 _ (List.mem_of_getElem? (i := 161) rfl)) rfl
set_option maxRecDepth 20000 in
theorem w_402 : (Jvm.Cond.methodLink "MeshLines$Mesh" (73 : Nat) ({ cls := "MeshLines$FlitBuffer", name := "front", desc := "()LMeshLines$Flit;" } : Jvm.MethodName)) ∈ evW := evWi (tj_2 _ (List.mem_of_getElem? (i := 162) rfl)) rfl
set_option maxRecDepth 20000 in
theorem w_403 : (Jvm.Cond.methodLink "MeshLines$Mesh" (84 : Nat) ({ cls := "MeshLines$Mesh", name := "leaveMesh", desc := "(LMeshLines$Flit;LMeshLines$Lane;)V" } : Jvm.MethodName)) ∈ evW := evWi (tj_2 _ (List.mem_of_getElem? (i := 163) rfl)) rfl
set_option maxRecDepth 20000 in
theorem w_405 : (Jvm.Cond.instanceMethod ({ cls := "MeshLines$Mesh", name := "leaveMesh", desc := "(LMeshLines$Flit;LMeshLines$Lane;)V" } : Jvm.MethodName)) ∈ evW := evWi (tj_2 _ (List.mem_of_getElem? (i := 165) rfl)) rfl
set_option maxRecDepth 20000 in
theorem w_406 : (Jvm.Cond.code ({ cls := "MeshLines$Mesh", name := "leaveMesh", desc := "(LMeshLines$Flit;LMeshLines$Lane;)V" } : Jvm.MethodName) prog_8_method_8_code (3 : Nat) (Option.none : Option Jvm.ClassFile.FieldType)) ∈ evW := evWi (tj_2 _ (List.mem_of_getElem? (i := 166) rfl)) rfl
set_option maxRecDepth 20000 in
theorem w_407 : (Jvm.Cond.methodLink "MeshLines$Mesh" (41 : Nat) ({ cls := "java/util/ArrayList", name := "add", desc := "(Ljava/lang/Object;)Z" } : Jvm.MethodName)) ∈ evW := evWi (tj_2 _ (List.mem_of_getElem? (i := 167) rfl)) rfl
set_option maxRecDepth 20000 in
theorem w_408 : (Jvm.Cond.instanceMethod ({ cls := "java/util/ArrayList", name := "add", desc := "(Ljava/lang/Object;)Z" } : Jvm.MethodName)) ∈ evW := evWi (tj_2 _ (List.mem_of_getElem? (i := 168) rfl)) rfl
set_option maxRecDepth 20000 in
theorem w_409 : (Jvm.Cond.selects "java/util/ArrayList" ({ cls := "java/util/ArrayList", name := "add", desc := "(Ljava/lang/Object;)Z" } : Jvm.MethodName) ({ cls := "java/util/ArrayList", name := "add", desc := "(Ljava/lang/Object;)Z" } : Jvm.MethodName)) ∈ evW := evWi (tj_2 _ (List.mem_of_getElem? (i := 169) rfl)) rfl
set_option maxRecDepth 20000 in
theorem w_410 : (Jvm.Cond.code ({ cls := "java/util/ArrayList", name := "add", desc := "(Ljava/lang/Object;)Z" } : Jvm.MethodName) prog_21_method_25_code (2 : Nat) (Option.some Jvm.ClassFile.FieldType.boolean)) ∈ evW := evWi (tj_2 _ (List.mem_of_getElem? (i := 170) rfl)) rfl
set_option maxRecDepth 20000 in
theorem w_411 : (Jvm.Cond.methodLink "java/util/ArrayList" (131 : Nat) ({ cls := "java/util/ArrayList", name := "add", desc := "(Ljava/lang/Object;[Ljava/lang/Object;I)V" } : Jvm.MethodName)) ∈ evW := evWi (tj_2 _ (List.mem_of_getElem? (i := 171) rfl)) rfl
set_option maxRecDepth 20000 in
theorem w_413 : (Jvm.Cond.instanceMethod ({ cls := "java/util/ArrayList", name := "add", desc := "(Ljava/lang/Object;[Ljava/lang/Object;I)V" } : Jvm.MethodName)) ∈ evW := evWi (tj_2 _ (List.mem_of_getElem? (i := 173) rfl)) rfl
set_option maxRecDepth 20000 in
theorem w_414 : (Jvm.Cond.code ({ cls := "java/util/ArrayList", name := "add", desc := "(Ljava/lang/Object;[Ljava/lang/Object;I)V" } : Jvm.MethodName) prog_21_method_24_code (4 : Nat) (Option.none : Option Jvm.ClassFile.FieldType)) ∈ evW := evWi (tj_2 _ (List.mem_of_getElem? (i := 174) rfl)) rfl
set_option maxRecDepth 20000 in
theorem w_415 : (Jvm.Cond.methodLink "java/util/ArrayList" (129 : Nat) ({ cls := "java/util/ArrayList", name := "grow", desc := "()[Ljava/lang/Object;" } : Jvm.MethodName)) ∈ evW := evWi (tj_2 _ (List.mem_of_getElem? (i := 175) rfl)) rfl
set_option maxRecDepth 20000 in
theorem w_417 : (Jvm.Cond.instanceMethod ({ cls := "java/util/ArrayList", name := "grow", desc := "()[Ljava/lang/Object;" } : Jvm.MethodName)) ∈ evW := evWi (tj_2 _ (List.mem_of_getElem? (i := 177) rfl)) rfl
set_option maxRecDepth 20000 in
theorem w_418 : (Jvm.Cond.code ({ cls := "java/util/ArrayList", name := "grow", desc := "()[Ljava/lang/Object;" } : Jvm.MethodName) prog_21_method_7_code (1 : Nat) (Option.some (Jvm.ClassFile.FieldType.array (Jvm.ClassFile.FieldType.object "java/lang/Object")))) ∈ evW := evWi (tj_2 _ (List.mem_of_getElem? (i := 178) rfl)) rfl
set_option maxRecDepth 20000 in
theorem w_419 : (Jvm.Cond.methodLink "java/util/ArrayList" (69 : Nat) ({ cls := "java/util/ArrayList", name := "grow", desc := "(I)[Ljava/lang/Object;" } : Jvm.MethodName)) ∈ evW := evWi (tj_2 _ (List.mem_of_getElem? (i := 179) rfl)) rfl
set_option maxRecDepth 20000 in
theorem w_421 : (Jvm.Cond.instanceMethod ({ cls := "java/util/ArrayList", name := "grow", desc := "(I)[Ljava/lang/Object;" } : Jvm.MethodName)) ∈ evW := evWi (tj_2 _ (List.mem_of_getElem? (i := 181) rfl)) rfl
set_option maxRecDepth 20000 in
theorem w_422 : (Jvm.Cond.code ({ cls := "java/util/ArrayList", name := "grow", desc := "(I)[Ljava/lang/Object;" } : Jvm.MethodName) prog_21_method_6_code (4 : Nat) (Option.some (Jvm.ClassFile.FieldType.array (Jvm.ClassFile.FieldType.object "java/lang/Object")))) ∈ evW := evWi (tj_2 _ (List.mem_of_getElem? (i := 182) rfl)) rfl
set_option maxRecDepth 20000 in
theorem w_423 : (Jvm.Cond.methodLink "java/util/ArrayList" (73 : Nat) ({ cls := "jdk/internal/util/ArraysSupport", name := "newLength", desc := "(III)I" } : Jvm.MethodName)) ∈ evW := evWi (tj_2 _ (List.mem_of_getElem? (i := 183) rfl)) rfl
set_option maxRecDepth 20000 in
theorem w_424 : (Jvm.Cond.static ({ cls := "jdk/internal/util/ArraysSupport", name := "newLength", desc := "(III)I" } : Jvm.MethodName)) ∈ evW := evWi (tj_2 _ (List.mem_of_getElem? (i := 184) rfl)) rfl
set_option maxRecDepth 20000 in
theorem w_425 : (Jvm.Cond.code ({ cls := "jdk/internal/util/ArraysSupport", name := "newLength", desc := "(III)I" } : Jvm.MethodName) prog_28_method_27_code (4 : Nat) (Option.some Jvm.ClassFile.FieldType.int)) ∈ evW := evWi (tj_2 _ (List.mem_of_getElem? (i := 185) rfl)) rfl
set_option maxRecDepth 20000 in
theorem w_426 : (Jvm.Cond.methodLink "jdk/internal/util/ArraysSupport" (194 : Nat) ({ cls := "java/lang/Math", name := "max", desc := "(II)I" } : Jvm.MethodName)) ∈ evW := evWi (tj_2 _ (List.mem_of_getElem? (i := 186) rfl)) rfl
set_option maxRecDepth 20000 in
theorem w_427 : (Jvm.Cond.constant "jdk/internal/util/ArraysSupport" (200 : Nat) (2147483639 : Int32)) ∈ evW := evWi (tj_2 _ (List.mem_of_getElem? (i := 187) rfl)) rfl
set_option maxRecDepth 20000 in
theorem w_428 : (Jvm.Cond.methodLink "jdk/internal/util/ArraysSupport" (201 : Nat) ({ cls := "jdk/internal/util/ArraysSupport", name := "hugeLength", desc := "(II)I" } : Jvm.MethodName)) ∈ evW := evWi (tj_2 _ (List.mem_of_getElem? (i := 188) rfl)) rfl
set_option maxRecDepth 20000 in
theorem w_429 : (Jvm.Cond.static ({ cls := "jdk/internal/util/ArraysSupport", name := "hugeLength", desc := "(II)I" } : Jvm.MethodName)) ∈ evW := evWi (tj_2 _ (List.mem_of_getElem? (i := 189) rfl)) rfl
set_option maxRecDepth 20000 in
theorem w_430 : (Jvm.Cond.code ({ cls := "jdk/internal/util/ArraysSupport", name := "hugeLength", desc := "(II)I" } : Jvm.MethodName) prog_28_method_28_code (3 : Nat) (Option.some Jvm.ClassFile.FieldType.int)) ∈ evW := evWi (tj_2 _ (List.mem_of_getElem? (i := 190) rfl)) rfl
set_option maxRecDepth 20000 in
theorem w_431 : (Jvm.Cond.methodLink "java/util/ArrayList" (66 : Nat) ({ cls := "java/util/Arrays", name := "copyOf", desc := "([Ljava/lang/Object;I)[Ljava/lang/Object;" } : Jvm.MethodName)) ∈ evW := evWi (tj_2 _ (List.mem_of_getElem? (i := 191) rfl)) rfl
set_option maxRecDepth 20000 in
theorem w_432 : (Jvm.Cond.static ({ cls := "java/util/Arrays", name := "copyOf", desc := "([Ljava/lang/Object;I)[Ljava/lang/Object;" } : Jvm.MethodName)) ∈ evW := evWi (tj_2 _ (List.mem_of_getElem? (i := 192) rfl)) rfl
set_option maxRecDepth 20000 in
theorem w_433 : (Jvm.Cond.code ({ cls := "java/util/Arrays", name := "copyOf", desc := "([Ljava/lang/Object;I)[Ljava/lang/Object;" } : Jvm.MethodName) prog_22_method_119_code (2 : Nat) (Option.some (Jvm.ClassFile.FieldType.array (Jvm.ClassFile.FieldType.object "java/lang/Object")))) ∈ evW := evWi (tj_2 _ (List.mem_of_getElem? (i := 193) rfl)) rfl
set_option maxRecDepth 20000 in
theorem w_434 : (Jvm.Cond.methodLink "java/util/Arrays" (86 : Nat) ({ cls := "java/lang/Object", name := "getClass", desc := "()Ljava/lang/Class;" } : Jvm.MethodName)) ∈ evW := evWi (tj_2 _ (List.mem_of_getElem? (i := 194) rfl)) rfl
set_option maxRecDepth 20000 in
theorem w_435 : (Jvm.Cond.instanceMethod ({ cls := "java/lang/Object", name := "getClass", desc := "()Ljava/lang/Class;" } : Jvm.MethodName)) ∈ evW := evWi (tj_2 _ (List.mem_of_getElem? (i := 195) rfl)) rfl
set_option maxRecDepth 20000 in
theorem w_449 : (Jvm.Cond.native ({ cls := "java/lang/Object", name := "getClass", desc := "()Ljava/lang/Class;" } : Jvm.MethodName)) ∈ evW := evWi (tj_2 _ (List.mem_of_getElem? (i := 209) rfl)) rfl
set_option maxRecDepth 20000 in
theorem w_450 : (Jvm.Cond.methodLink "java/util/Arrays" (300 : Nat) ({ cls := "java/util/Arrays", name := "copyOf", desc := "([Ljava/lang/Object;ILjava/lang/Class;)[Ljava/lang/Object;" } : Jvm.MethodName)) ∈ evW := evWi (tj_2 _ (List.mem_of_getElem? (i := 210) rfl)) rfl
set_option maxRecDepth 20000 in
theorem w_451 : (Jvm.Cond.static ({ cls := "java/util/Arrays", name := "copyOf", desc := "([Ljava/lang/Object;ILjava/lang/Class;)[Ljava/lang/Object;" } : Jvm.MethodName)) ∈ evW := evWi (tj_2 _ (List.mem_of_getElem? (i := 211) rfl)) rfl
set_option maxRecDepth 20000 in
theorem w_452 : (Jvm.Cond.code ({ cls := "java/util/Arrays", name := "copyOf", desc := "([Ljava/lang/Object;ILjava/lang/Class;)[Ljava/lang/Object;" } : Jvm.MethodName) prog_22_method_120_code (4 : Nat) (Option.some (Jvm.ClassFile.FieldType.array (Jvm.ClassFile.FieldType.object "java/lang/Object")))) ∈ evW := evWi (tj_2 _ (List.mem_of_getElem? (i := 212) rfl)) rfl
set_option maxRecDepth 20000 in
theorem w_453 : (Jvm.Cond.classLink "java/util/Arrays" (110 : Nat) "[Ljava/lang/Object;") ∈ evW := evWi (tj_2 _ (List.mem_of_getElem? (i := 213) rfl)) rfl
set_option maxRecDepth 20000 in
theorem w_455 : (Jvm.Cond.classLink "java/util/Arrays" (2 : Nat) "java/lang/Object") ∈ evW := evWi (tj_2 _ (List.mem_of_getElem? (i := 215) rfl)) rfl
set_option maxRecDepth 20000 in
theorem w_456 : (Jvm.Cond.methodLink "java/util/Arrays" (304 : Nat) ({ cls := "java/lang/Math", name := "min", desc := "(II)I" } : Jvm.MethodName)) ∈ evW := evWi (tj_2 _ (List.mem_of_getElem? (i := 216) rfl)) rfl
set_option maxRecDepth 20000 in
theorem w_457 : (Jvm.Cond.methodLink "java/util/Arrays" (150 : Nat) ({ cls := "java/lang/System", name := "arraycopy", desc := "(Ljava/lang/Object;ILjava/lang/Object;II)V" } : Jvm.MethodName)) ∈ evW := evWi (tj_2 _ (List.mem_of_getElem? (i := 217) rfl)) rfl
set_option maxRecDepth 20000 in
theorem w_458 : (Jvm.Cond.methodLink "java/util/ArrayList" (79 : Nat) ({ cls := "java/lang/Math", name := "max", desc := "(II)I" } : Jvm.MethodName)) ∈ evW := evWi (tj_2 _ (List.mem_of_getElem? (i := 218) rfl)) rfl
set_option maxRecDepth 20000 in
theorem w_459 : (Jvm.Cond.classLink "java/util/ArrayList" (7 : Nat) "java/lang/Object") ∈ evW := evWi (tj_2 _ (List.mem_of_getElem? (i := 219) rfl)) rfl
set_option maxRecDepth 20000 in
theorem w_460 : (Jvm.Cond.methodLink "MeshLines$Mesh" (88 : Nat) ({ cls := "MeshLines$Mesh", name := "bufferBeyond", desc := "(III)LMeshLines$FlitBuffer;" } : Jvm.MethodName)) ∈ evW := evWi (tj_2 _ (List.mem_of_getElem? (i := 220) rfl)) rfl
set_option maxRecDepth 20000 in
theorem w_462 : (Jvm.Cond.instanceMethod ({ cls := "MeshLines$Mesh", name := "bufferBeyond", desc := "(III)LMeshLines$FlitBuffer;" } : Jvm.MethodName)) ∈ evW := evWi (tj_2 _ (List.mem_of_getElem? (i := 222) rfl)) rfl
set_option maxRecDepth 20000 in
theorem w_463 : (Jvm.Cond.code ({ cls := "MeshLines$Mesh", name := "bufferBeyond", desc := "(III)LMeshLines$FlitBuffer;" } : Jvm.MethodName) prog_8_method_9_code (4 : Nat) (Option.some (Jvm.ClassFile.FieldType.object "MeshLines$FlitBuffer"))) ∈ evW := evWi (tj_2 _ (List.mem_of_getElem? (i := 223) rfl)) rfl
set_option maxRecDepth 20000 in
theorem w_464 : (Jvm.Cond.methodLink "MeshLines$Mesh" (92 : Nat) ({ cls := "MeshLines$FlitBuffer", name := "hasRoom", desc := "()Z" } : Jvm.MethodName)) ∈ evW := evWi (tj_2 _ (List.mem_of_getElem? (i := 224) rfl)) rfl
set_option maxRecDepth 20000 in
theorem w_465 : (Jvm.Cond.methodLink "MeshLines$Mesh" (96 : Nat) ({ cls := "MeshLines$FlitBuffer", name := "put", desc := "(LMeshLines$Flit;I)V" } : Jvm.MethodName)) ∈ evW := evWi (tj_2 _ (List.mem_of_getElem? (i := 225) rfl)) rfl
set_option maxRecDepth 20000 in
theorem w_466 : (Jvm.Cond.methodLink "MeshLines$Mesh" (103 : Nat) ({ cls := "MeshLines$Lane", name := "dropFront", desc := "(II)V" } : Jvm.MethodName)) ∈ evW := evWi (tj_2 _ (List.mem_of_getElem? (i := 226) rfl)) rfl
set_option maxRecDepth 20000 in
theorem w_467 : (Jvm.Cond.instanceMethod ({ cls := "MeshLines$Lane", name := "dropFront", desc := "(II)V" } : Jvm.MethodName)) ∈ evW := evWi (tj_2 _ (List.mem_of_getElem? (i := 227) rfl)) rfl
set_option maxRecDepth 20000 in
theorem w_468 : (Jvm.Cond.selects "MeshLines$Lane" ({ cls := "MeshLines$Lane", name := "dropFront", desc := "(II)V" } : Jvm.MethodName) ({ cls := "MeshLines$Lane", name := "dropFront", desc := "(II)V" } : Jvm.MethodName)) ∈ evW := evWi (tj_2 _ (List.mem_of_getElem? (i := 228) rfl)) rfl
set_option maxRecDepth 20000 in
theorem w_469 : (Jvm.Cond.code ({ cls := "MeshLines$Lane", name := "dropFront", desc := "(II)V" } : Jvm.MethodName) prog_7_method_5_code (4 : Nat) (Option.none : Option Jvm.ClassFile.FieldType)) ∈ evW := evWi (tj_2 _ (List.mem_of_getElem? (i := 229) rfl)) rfl
set_option maxRecDepth 20000 in
theorem w_470 : (Jvm.Cond.methodLink "MeshLines$Lane" (91 : Nat) ({ cls := "MeshLines$FlitBuffer", name := "dropFront", desc := "()V" } : Jvm.MethodName)) ∈ evW := evWi (tj_2 _ (List.mem_of_getElem? (i := 230) rfl)) rfl
set_option maxRecDepth 20000 in
theorem w_471 : (Jvm.Cond.instanceMethod ({ cls := "MeshLines$FlitBuffer", name := "dropFront", desc := "()V" } : Jvm.MethodName)) ∈ evW := evWi (tj_2 _ (List.mem_of_getElem? (i := 231) rfl)) rfl
set_option maxRecDepth 20000 in
theorem w_472 : (Jvm.Cond.selects "MeshLines$FlitBuffer" ({ cls := "MeshLines$FlitBuffer", name := "dropFront", desc := "()V" } : Jvm.MethodName) ({ cls := "MeshLines$FlitBuffer", name := "dropFront", desc := "()V" } : Jvm.MethodName)) ∈ evW := evWi (tj_2 _ (List.mem_of_getElem? (i := 232) rfl)) rfl
set_option maxRecDepth 20000 in
theorem w_473 : (Jvm.Cond.code ({ cls := "MeshLines$FlitBuffer", name := "dropFront", desc := "()V" } : Jvm.MethodName) prog_5_method_5_code (2 : Nat) (Option.none : Option Jvm.ClassFile.FieldType)) ∈ evW := evWi (tj_2 _ (List.mem_of_getElem? (i := 233) rfl)) rfl
set_option maxRecDepth 20000 in
theorem w_474 : (Jvm.Cond.methodLink "MeshLines" (65 : Nat) ({ cls := "MeshLines$Node", name := "takePackets", desc := "(I)V" } : Jvm.MethodName)) ∈ evW := evWi (tj_2 _ (List.mem_of_getElem? (i := 234) rfl)) rfl
set_option maxRecDepth 20000 in
theorem w_475 : (Jvm.Cond.instanceMethod ({ cls := "MeshLines$Node", name := "takePackets", desc := "(I)V" } : Jvm.MethodName)) ∈ evW := evWi (tj_2 _ (List.mem_of_getElem? (i := 235) rfl)) rfl
set_option maxRecDepth 20000 in
theorem w_476 : (Jvm.Cond.selects "MeshLines$Node" ({ cls := "MeshLines$Node", name := "takePackets", desc := "(I)V" } : Jvm.MethodName) ({ cls := "MeshLines$Node", name := "takePackets", desc := "(I)V" } : Jvm.MethodName)) ∈ evW := evWi (tj_2 _ (List.mem_of_getElem? (i := 236) rfl)) rfl
set_option maxRecDepth 20000 in
theorem w_477 : (Jvm.Cond.code ({ cls := "MeshLines$Node", name := "takePackets", desc := "(I)V" } : Jvm.MethodName) prog_9_method_2_code (5 : Nat) (Option.none : Option Jvm.ClassFile.FieldType)) ∈ evW := evWi (tj_2 _ (List.mem_of_getElem? (i := 237) rfl)) rfl
set_option maxRecDepth 20000 in
theorem w_478 : (Jvm.Cond.methodLink "MeshLines$Node" (41 : Nat) ({ cls := "MeshLines$Mesh", name := "laneOf", desc := "(II)LMeshLines$Lane;" } : Jvm.MethodName)) ∈ evW := evWi (tj_2 _ (List.mem_of_getElem? (i := 238) rfl)) rfl
set_option maxRecDepth 20000 in
theorem w_479 : (Jvm.Cond.methodLink "MeshLines$Node" (53 : Nat) ({ cls := "MeshLines$Node", name := "firstToTake", desc := "(Ljava/util/ArrayList;)I" } : Jvm.MethodName)) ∈ evW := evWi (tj_2 _ (List.mem_of_getElem? (i := 239) rfl)) rfl
set_option maxRecDepth 20000 in
theorem w_481 : (Jvm.Cond.instanceMethod ({ cls := "MeshLines$Node", name := "firstToTake", desc := "(Ljava/util/ArrayList;)I" } : Jvm.MethodName)) ∈ evW := evWi (tj_3 _ (List.mem_of_getElem? (i := 1) rfl)) rfl
set_option maxRecDepth 20000 in
theorem w_482 : (Jvm.Cond.code ({ cls := "MeshLines$Node", name := "firstToTake", desc := "(Ljava/util/ArrayList;)I" } : Jvm.MethodName) prog_9_method_3_code (7 : Nat) (Option.some Jvm.ClassFile.FieldType.int)) ∈ evW := evWi (tj_3 _ (List.mem_of_getElem? (i := 2) rfl)) rfl
set_option maxRecDepth 20000 in
theorem w_483 : (Jvm.Cond.methodLink "MeshLines$Node" (69 : Nat) ({ cls := "java/util/ArrayList", name := "size", desc := "()I" } : Jvm.MethodName)) ∈ evW := evWi (tj_3 _ (List.mem_of_getElem? (i := 3) rfl)) rfl
set_option maxRecDepth 20000 in
theorem w_484 : (Jvm.Cond.instanceMethod ({ cls := "java/util/ArrayList", name := "size", desc := "()I" } : Jvm.MethodName)) ∈ evW := evWi (tj_3 _ (List.mem_of_getElem? (i := 4) rfl)) rfl
set_option maxRecDepth 20000 in
theorem w_485 : (Jvm.Cond.selects "java/util/ArrayList" ({ cls := "java/util/ArrayList", name := "size", desc := "()I" } : Jvm.MethodName) ({ cls := "java/util/ArrayList", name := "size", desc := "()I" } : Jvm.MethodName)) ∈ evW := evWi (tj_3 _ (List.mem_of_getElem? (i := 5) rfl)) rfl
set_option maxRecDepth 20000 in
theorem w_486 : (Jvm.Cond.code ({ cls := "java/util/ArrayList", name := "size", desc := "()I" } : Jvm.MethodName) prog_21_method_8_code (1 : Nat) (Option.some Jvm.ClassFile.FieldType.int)) ∈ evW := evWi (tj_3 _ (List.mem_of_getElem? (i := 6) rfl)) rfl
set_option maxRecDepth 20000 in
theorem w_487 : (Jvm.Cond.methodLink "MeshLines$Node" (73 : Nat) ({ cls := "java/util/ArrayList", name := "get", desc := "(I)Ljava/lang/Object;" } : Jvm.MethodName)) ∈ evW := evWi (tj_3 _ (List.mem_of_getElem? (i := 7) rfl)) rfl
set_option maxRecDepth 20000 in
theorem w_488 : (Jvm.Cond.classLink "MeshLines$Node" (63 : Nat) "MeshLines$Packet") ∈ evW := evWi (tj_3 _ (List.mem_of_getElem? (i := 8) rfl)) rfl
set_option maxRecDepth 20000 in
theorem w_489 : (Jvm.Cond.methodLink "MeshLines$Node" (79 : Nat) ({ cls := "MeshLines$Node", name := "stalls", desc := "(LMeshLines$Packet;)Z" } : Jvm.MethodName)) ∈ evW := evWi (tj_3 _ (List.mem_of_getElem? (i := 9) rfl)) rfl
set_option maxRecDepth 20000 in
theorem w_491 : (Jvm.Cond.instanceMethod ({ cls := "MeshLines$Node", name := "stalls", desc := "(LMeshLines$Packet;)Z" } : Jvm.MethodName)) ∈ evW := evWi (tj_3 _ (List.mem_of_getElem? (i := 11) rfl)) rfl
set_option maxRecDepth 20000 in
theorem w_492 : (Jvm.Cond.code ({ cls := "MeshLines$Node", name := "stalls", desc := "(LMeshLines$Packet;)Z" } : Jvm.MethodName) prog_9_method_4_code (2 : Nat) (Option.some Jvm.ClassFile.FieldType.boolean)) ∈ evW := evWi (tj_3 _ (List.mem_of_getElem? (i := 12) rfl)) rfl
set_option maxRecDepth 20000 in
theorem w_493 : (Jvm.Cond.methodLink "MeshLines$Node" (83 : Nat) ({ cls := "MeshLines$Packet", name := "isForHome", desc := "()Z" } : Jvm.MethodName)) ∈ evW := evWi (tj_3 _ (List.mem_of_getElem? (i := 13) rfl)) rfl
set_option maxRecDepth 20000 in
theorem w_494 : (Jvm.Cond.instanceMethod ({ cls := "MeshLines$Packet", name := "isForHome", desc := "()Z" } : Jvm.MethodName)) ∈ evW := evWi (tj_3 _ (List.mem_of_getElem? (i := 14) rfl)) rfl
set_option maxRecDepth 20000 in
theorem w_495 : (Jvm.Cond.selects "MeshLines$Packet" ({ cls := "MeshLines$Packet", name := "isForHome", desc := "()Z" } : Jvm.MethodName) ({ cls := "MeshLines$Packet", name := "isForHome", desc := "()Z" } : Jvm.MethodName)) ∈ evW := evWi (tj_3 _ (List.mem_of_getElem? (i := 15) rfl)) rfl
set_option maxRecDepth 20000 in
theorem w_496 : (Jvm.Cond.code ({ cls := "MeshLines$Packet", name := "isForHome", desc := "()Z" } : Jvm.MethodName) prog_10_method_3_code (1 : Nat) (Option.some Jvm.ClassFile.FieldType.boolean)) ∈ evW := evWi (tj_3 _ (List.mem_of_getElem? (i := 16) rfl)) rfl
set_option maxRecDepth 20000 in
theorem w_497 : (Jvm.Cond.methodLink "MeshLines$Node" (87 : Nat) ({ cls := "MeshLines$Home", name := "stalls", desc := "(LMeshLines$Packet;)Z" } : Jvm.MethodName)) ∈ evW := evWi (tj_3 _ (List.mem_of_getElem? (i := 17) rfl)) rfl
set_option maxRecDepth 20000 in
theorem w_498 : (Jvm.Cond.instanceMethod ({ cls := "MeshLines$Home", name := "stalls", desc := "(LMeshLines$Packet;)Z" } : Jvm.MethodName)) ∈ evW := evWi (tj_3 _ (List.mem_of_getElem? (i := 18) rfl)) rfl
set_option maxRecDepth 20000 in
theorem w_499 : (Jvm.Cond.selects "MeshLines$Home" ({ cls := "MeshLines$Home", name := "stalls", desc := "(LMeshLines$Packet;)Z" } : Jvm.MethodName) ({ cls := "MeshLines$Home", name := "stalls", desc := "(LMeshLines$Packet;)Z" } : Jvm.MethodName)) ∈ evW := evWi (tj_3 _ (List.mem_of_getElem? (i := 19) rfl)) rfl
set_option maxRecDepth 20000 in
theorem w_500 : (Jvm.Cond.code ({ cls := "MeshLines$Home", name := "stalls", desc := "(LMeshLines$Packet;)Z" } : Jvm.MethodName) prog_6_method_2_code (2 : Nat) (Option.some Jvm.ClassFile.FieldType.boolean)) ∈ evW := evWi (tj_3 _ (List.mem_of_getElem? (i := 20) rfl)) rfl
set_option maxRecDepth 20000 in
theorem w_501 : (Jvm.Cond.methodLink "MeshLines$Node" (90 : Nat) ({ cls := "MeshLines$Cache", name := "stalls", desc := "(LMeshLines$Packet;)Z" } : Jvm.MethodName)) ∈ evW := evWi (tj_3 _ (List.mem_of_getElem? (i := 21) rfl)) rfl
set_option maxRecDepth 20000 in
theorem w_502 : (Jvm.Cond.instanceMethod ({ cls := "MeshLines$Cache", name := "stalls", desc := "(LMeshLines$Packet;)Z" } : Jvm.MethodName)) ∈ evW := evWi (tj_3 _ (List.mem_of_getElem? (i := 22) rfl)) rfl
set_option maxRecDepth 20000 in
theorem w_503 : (Jvm.Cond.selects "MeshLines$Cache" ({ cls := "MeshLines$Cache", name := "stalls", desc := "(LMeshLines$Packet;)Z" } : Jvm.MethodName) ({ cls := "MeshLines$Cache", name := "stalls", desc := "(LMeshLines$Packet;)Z" } : Jvm.MethodName)) ∈ evW := evWi (tj_3 _ (List.mem_of_getElem? (i := 23) rfl)) rfl
set_option maxRecDepth 20000 in
theorem w_504 : (Jvm.Cond.code ({ cls := "MeshLines$Cache", name := "stalls", desc := "(LMeshLines$Packet;)Z" } : Jvm.MethodName) prog_2_method_2_code (3 : Nat) (Option.some Jvm.ClassFile.FieldType.boolean)) ∈ evW := evWi (tj_3 _ (List.mem_of_getElem? (i := 24) rfl)) rfl
set_option maxRecDepth 20000 in
theorem w_505 : (Jvm.Cond.methodLink "MeshLines$Node" (57 : Nat) ({ cls := "java/util/ArrayList", name := "remove", desc := "(I)Ljava/lang/Object;" } : Jvm.MethodName)) ∈ evW := evWi (tj_3 _ (List.mem_of_getElem? (i := 25) rfl)) rfl
set_option maxRecDepth 20000 in
theorem w_506 : (Jvm.Cond.methodLink "MeshLines$Node" (65 : Nat) ({ cls := "MeshLines$Node", name := "take", desc := "(LMeshLines$Packet;I)V" } : Jvm.MethodName)) ∈ evW := evWi (tj_3 _ (List.mem_of_getElem? (i := 26) rfl)) rfl
set_option maxRecDepth 20000 in
theorem w_508 : (Jvm.Cond.instanceMethod ({ cls := "MeshLines$Node", name := "take", desc := "(LMeshLines$Packet;I)V" } : Jvm.MethodName)) ∈ evW := evWi (tj_3 _ (List.mem_of_getElem? (i := 28) rfl)) rfl
set_option maxRecDepth 20000 in
theorem w_509 : (Jvm.Cond.code ({ cls := "MeshLines$Node", name := "take", desc := "(LMeshLines$Packet;I)V" } : Jvm.MethodName) prog_9_method_5_code (3 : Nat) (Option.none : Option Jvm.ClassFile.FieldType)) ∈ evW := evWi (tj_3 _ (List.mem_of_getElem? (i := 29) rfl)) rfl
set_option maxRecDepth 20000 in
theorem w_510 : (Jvm.Cond.methodLink "MeshLines$Node" (91 : Nat) ({ cls := "MeshLines$Home", name := "take", desc := "(LMeshLines$Packet;)V" } : Jvm.MethodName)) ∈ evW := evWi (tj_3 _ (List.mem_of_getElem? (i := 30) rfl)) rfl
set_option maxRecDepth 20000 in
theorem w_511 : (Jvm.Cond.instanceMethod ({ cls := "MeshLines$Home", name := "take", desc := "(LMeshLines$Packet;)V" } : Jvm.MethodName)) ∈ evW := evWi (tj_3 _ (List.mem_of_getElem? (i := 31) rfl)) rfl
set_option maxRecDepth 20000 in
theorem w_512 : (Jvm.Cond.selects "MeshLines$Home" ({ cls := "MeshLines$Home", name := "take", desc := "(LMeshLines$Packet;)V" } : Jvm.MethodName) ({ cls := "MeshLines$Home", name := "take", desc := "(LMeshLines$Packet;)V" } : Jvm.MethodName)) ∈ evW := evWi (tj_3 _ (List.mem_of_getElem? (i := 32) rfl)) rfl
set_option maxRecDepth 20000 in
theorem w_513 : (Jvm.Cond.code ({ cls := "MeshLines$Home", name := "take", desc := "(LMeshLines$Packet;)V" } : Jvm.MethodName) prog_6_method_3_code (2 : Nat) (Option.none : Option Jvm.ClassFile.FieldType)) ∈ evW := evWi (tj_3 _ (List.mem_of_getElem? (i := 33) rfl)) rfl
set_option maxRecDepth 20000 in
theorem w_514 : (Jvm.Cond.methodLink "MeshLines$Home" (40 : Nat) ({ cls := "MeshLines$Home", name := "takeGets", desc := "(I)V" } : Jvm.MethodName)) ∈ evW := evWi (tj_3 _ (List.mem_of_getElem? (i := 34) rfl)) rfl
set_option maxRecDepth 20000 in
theorem w_516 : (Jvm.Cond.instanceMethod ({ cls := "MeshLines$Home", name := "takeGets", desc := "(I)V" } : Jvm.MethodName)) ∈ evW := evWi (tj_3 _ (List.mem_of_getElem? (i := 36) rfl)) rfl
set_option maxRecDepth 20000 in
theorem w_517 : (Jvm.Cond.code ({ cls := "MeshLines$Home", name := "takeGets", desc := "(I)V" } : Jvm.MethodName) prog_6_method_4_code (2 : Nat) (Option.none : Option Jvm.ClassFile.FieldType)) ∈ evW := evWi (tj_3 _ (List.mem_of_getElem? (i := 37) rfl)) rfl
set_option maxRecDepth 20000 in
theorem w_518 : (Jvm.Cond.methodLink "MeshLines$Home" (58 : Nat) ({ cls := "MeshLines$Mesh", name := "send", desc := "(IIIIIII)V" } : Jvm.MethodName)) ∈ evW := evWi (tj_3 _ (List.mem_of_getElem? (i := 38) rfl)) rfl
set_option maxRecDepth 20000 in
theorem w_519 : (Jvm.Cond.instanceMethod ({ cls := "MeshLines$Mesh", name := "send", desc := "(IIIIIII)V" } : Jvm.MethodName)) ∈ evW := evWi (tj_3 _ (List.mem_of_getElem? (i := 39) rfl)) rfl
set_option maxRecDepth 20000 in
theorem w_520 : (Jvm.Cond.selects "MeshLines$Mesh" ({ cls := "MeshLines$Mesh", name := "send", desc := "(IIIIIII)V" } : Jvm.MethodName) ({ cls := "MeshLines$Mesh", name := "send", desc := "(IIIIIII)V" } : Jvm.MethodName)) ∈ evW := evWi (tj_3 _ (List.mem_of_getElem? (i := 40) rfl)) rfl
set_option maxRecDepth 20000 in
theorem w_521 : (Jvm.Cond.code ({ cls := "MeshLines$Mesh", name := "send", desc := "(IIIIIII)V" } : Jvm.MethodName) prog_8_method_3_code (9 : Nat) (Option.none : Option Jvm.ClassFile.FieldType)) ∈ evW := evWi (tj_3 _ (List.mem_of_getElem? (i := 41) rfl)) rfl
set_option maxRecDepth 20000 in
theorem w_522 : (Jvm.Cond.classLink "MeshLines$Mesh" (24 : Nat) "MeshLines$Packet") ∈ evW := evWi (tj_3 _ (List.mem_of_getElem? (i := 42) rfl)) rfl
set_option maxRecDepth 20000 in
theorem w_523 : (Jvm.Cond.instantiable "MeshLines$Packet" (7 : Nat)) ∈ evW := evWi (tj_3 _ (List.mem_of_getElem? (i := 43) rfl)) rfl
set_option maxRecDepth 20000 in
theorem w_524 : (Jvm.Cond.methodLink "MeshLines$Mesh" (26 : Nat) ({ cls := "MeshLines$Packet", name := "<init>", desc := "(IIIIIII)V" } : Jvm.MethodName)) ∈ evW := evWi (tj_3 _ (List.mem_of_getElem? (i := 44) rfl)) rfl
set_option maxRecDepth 20000 in
theorem w_525 : (Jvm.Cond.instanceMethod ({ cls := "MeshLines$Packet", name := "<init>", desc := "(IIIIIII)V" } : Jvm.MethodName)) ∈ evW := evWi (tj_3 _ (List.mem_of_getElem? (i := 45) rfl)) rfl
set_option maxRecDepth 20000 in
theorem w_526 : (Jvm.Cond.code ({ cls := "MeshLines$Packet", name := "<init>", desc := "(IIIIIII)V" } : Jvm.MethodName) prog_10_method_1_code (9 : Nat) (Option.none : Option Jvm.ClassFile.FieldType)) ∈ evW := evWi (tj_3 _ (List.mem_of_getElem? (i := 46) rfl)) rfl
set_option maxRecDepth 20000 in
theorem w_527 : (Jvm.Cond.methodLink "MeshLines$Packet" (3 : Nat) ({ cls := "java/lang/Object", name := "<init>", desc := "()V" } : Jvm.MethodName)) ∈ evW := evWi (tj_3 _ (List.mem_of_getElem? (i := 47) rfl)) rfl
set_option maxRecDepth 20000 in
theorem w_528 : (Jvm.Cond.fieldLink "MeshLines$Packet" (9 : Nat) "MeshLines$Packet" "kind" "I") ∈ evW := evWi (tj_3 _ (List.mem_of_getElem? (i := 48) rfl)) rfl
set_option maxRecDepth 20000 in
theorem w_529 : (Jvm.Cond.fieldLink "MeshLines$Home" (32 : Nat) "MeshLines$Packet" "kind" "I") ∈ evW := evWi (tj_3 _ (List.mem_of_getElem? (i := 49) rfl)) rfl
set_option maxRecDepth 20000 in
theorem w_530 : (Jvm.Cond.fieldLink "MeshLines$Cache" (37 : Nat) "MeshLines$Packet" "kind" "I") ∈ evW := evWi (tj_3 _ (List.mem_of_getElem? (i := 50) rfl)) rfl
set_option maxRecDepth 20000 in
theorem w_531 : (Jvm.Cond.fieldLink "MeshLines$Packet" (15 : Nat) "MeshLines$Packet" "line" "I") ∈ evW := evWi (tj_3 _ (List.mem_of_getElem? (i := 51) rfl)) rfl
set_option maxRecDepth 20000 in
theorem w_532 : (Jvm.Cond.fieldLink "MeshLines$Cache" (32 : Nat) "MeshLines$Packet" "line" "I") ∈ evW := evWi (tj_3 _ (List.mem_of_getElem? (i := 52) rfl)) rfl
set_option maxRecDepth 20000 in
theorem w_533 : (Jvm.Cond.fieldLink "MeshLines$Node" (76 : Nat) "MeshLines$Packet" "line" "I") ∈ evW := evWi (tj_3 _ (List.mem_of_getElem? (i := 53) rfl)) rfl
set_option maxRecDepth 20000 in
theorem w_534 : (Jvm.Cond.fieldLink "MeshLines$Packet" (18 : Nat) "MeshLines$Packet" "destination" "I") ∈ evW := evWi (tj_3 _ (List.mem_of_getElem? (i := 54) rfl)) rfl
set_option maxRecDepth 20000 in
theorem w_535 : (Jvm.Cond.fieldLink "MeshLines$Lane" (84 : Nat) "MeshLines$Packet" "destination" "I") ∈ evW := evWi (tj_3 _ (List.mem_of_getElem? (i := 55) rfl)) rfl
set_option maxRecDepth 20000 in
theorem w_536 : (Jvm.Cond.fieldLink "MeshLines$Packet" (21 : Nat) "MeshLines$Packet" "asker" "I") ∈ evW := evWi (tj_3 _ (List.mem_of_getElem? (i := 56) rfl)) rfl
set_option maxRecDepth 20000 in
theorem w_537 : (Jvm.Cond.fieldLink "MeshLines$Home" (37 : Nat) "MeshLines$Packet" "asker" "I") ∈ evW := evWi (tj_3 _ (List.mem_of_getElem? (i := 57) rfl)) rfl
set_option maxRecDepth 20000 in
theorem w_538 : (Jvm.Cond.fieldLink "MeshLines$Cache" (56 : Nat) "MeshLines$Packet" "asker" "I") ∈ evW := evWi (tj_3 _ (List.mem_of_getElem? (i := 58) rfl)) rfl
set_option maxRecDepth 20000 in
theorem w_539 : (Jvm.Cond.fieldLink "MeshLines$Packet" (24 : Nat) "MeshLines$Packet" "value" "I") ∈ evW := evWi (tj_3 _ (List.mem_of_getElem? (i := 59) rfl)) rfl
set_option maxRecDepth 20000 in
theorem w_540 : (Jvm.Cond.fieldLink "MeshLines$Home" (50 : Nat) "MeshLines$Packet" "value" "I") ∈ evW := evWi (tj_3 _ (List.mem_of_getElem? (i := 60) rfl)) rfl
set_option maxRecDepth 20000 in
theorem w_541 : (Jvm.Cond.fieldLink "MeshLines$Cache" (70 : Nat) "MeshLines$Packet" "value" "I") ∈ evW := evWi (tj_3 _ (List.mem_of_getElem? (i := 61) rfl)) rfl
set_option maxRecDepth 20000 in
theorem w_542 : (Jvm.Cond.fieldLink "MeshLines$Packet" (27 : Nat) "MeshLines$Packet" "acks" "I") ∈ evW := evWi (tj_3 _ (List.mem_of_getElem? (i := 62) rfl)) rfl
set_option maxRecDepth 20000 in
theorem w_543 : (Jvm.Cond.fieldLink "MeshLines$Cache" (67 : Nat) "MeshLines$Packet" "acks" "I") ∈ evW := evWi (tj_3 _ (List.mem_of_getElem? (i := 63) rfl)) rfl
set_option maxRecDepth 20000 in
theorem w_544 : (Jvm.Cond.fieldLink "MeshLines$Flit" (17 : Nat) "MeshLines$Packet" "length" "I") ∈ evW := evWi (tj_3 _ (List.mem_of_getElem? (i := 64) rfl)) rfl
set_option maxRecDepth 20000 in
theorem w_545 : (Jvm.Cond.fieldLink "MeshLines$Packet" (30 : Nat) "MeshLines$Packet" "length" "I") ∈ evW := evWi (tj_3 _ (List.mem_of_getElem? (i := 65) rfl)) rfl
set_option maxRecDepth 20000 in
theorem w_546 : (Jvm.Cond.laysFinal "MeshLines$Packet" "MeshLines$Packet" "kind" "I") ∈ evW := evWi (tj_3 _ (List.mem_of_getElem? (i := 66) rfl)) rfl
set_option maxRecDepth 20000 in
theorem w_548 : (Jvm.Cond.laysFinal "MeshLines$Packet" "MeshLines$Packet" "line" "I") ∈ evW := evWi (tj_3 _ (List.mem_of_getElem? (i := 68) rfl)) rfl
set_option maxRecDepth 20000 in
theorem w_550 : (Jvm.Cond.laysFinal "MeshLines$Packet" "MeshLines$Packet" "destination" "I") ∈ evW := evWi (tj_3 _ (List.mem_of_getElem? (i := 70) rfl)) rfl
set_option maxRecDepth 20000 in
theorem w_552 : (Jvm.Cond.laysFinal "MeshLines$Packet" "MeshLines$Packet" "asker" "I") ∈ evW := evWi (tj_3 _ (List.mem_of_getElem? (i := 72) rfl)) rfl
set_option maxRecDepth 20000 in
theorem w_554 : (Jvm.Cond.laysFinal "MeshLines$Packet" "MeshLines$Packet" "value" "I") ∈ evW := evWi (tj_3 _ (List.mem_of_getElem? (i := 74) rfl)) rfl
set_option maxRecDepth 20000 in
theorem w_556 : (Jvm.Cond.laysFinal "MeshLines$Packet" "MeshLines$Packet" "acks" "I") ∈ evW := evWi (tj_3 _ (List.mem_of_getElem? (i := 76) rfl)) rfl
set_option maxRecDepth 20000 in
theorem w_558 : (Jvm.Cond.laysFinal "MeshLines$Packet" "MeshLines$Packet" "length" "I") ∈ evW := evWi (tj_3 _ (List.mem_of_getElem? (i := 78) rfl)) rfl
set_option maxRecDepth 20000 in
theorem w_561 : (Jvm.Cond.methodLink "MeshLines$Mesh" (29 : Nat) ({ cls := "MeshLines$Packet", name := "channel", desc := "()I" } : Jvm.MethodName)) ∈ evW := evWi (tj_3 _ (List.mem_of_getElem? (i := 81) rfl)) rfl
set_option maxRecDepth 20000 in
theorem w_562 : (Jvm.Cond.instanceMethod ({ cls := "MeshLines$Packet", name := "channel", desc := "()I" } : Jvm.MethodName)) ∈ evW := evWi (tj_3 _ (List.mem_of_getElem? (i := 82) rfl)) rfl
set_option maxRecDepth 20000 in
theorem w_563 : (Jvm.Cond.selects "MeshLines$Packet" ({ cls := "MeshLines$Packet", name := "channel", desc := "()I" } : Jvm.MethodName) ({ cls := "MeshLines$Packet", name := "channel", desc := "()I" } : Jvm.MethodName)) ∈ evW := evWi (tj_3 _ (List.mem_of_getElem? (i := 83) rfl)) rfl
set_option maxRecDepth 20000 in
theorem w_564 : (Jvm.Cond.code ({ cls := "MeshLines$Packet", name := "channel", desc := "()I" } : Jvm.MethodName) prog_10_method_2_code (1 : Nat) (Option.some Jvm.ClassFile.FieldType.int)) ∈ evW := evWi (tj_3 _ (List.mem_of_getElem? (i := 84) rfl)) rfl
set_option maxRecDepth 20000 in
theorem w_565 : (Jvm.Cond.methodLink "MeshLines$Home" (44 : Nat) ({ cls := "MeshLines$Home", name := "takeGetm", desc := "(I)V" } : Jvm.MethodName)) ∈ evW := evWi (tj_3 _ (List.mem_of_getElem? (i := 85) rfl)) rfl
set_option maxRecDepth 20000 in
theorem w_567 : (Jvm.Cond.instanceMethod ({ cls := "MeshLines$Home", name := "takeGetm", desc := "(I)V" } : Jvm.MethodName)) ∈ evW := evWi (tj_3 _ (List.mem_of_getElem? (i := 87) rfl)) rfl
set_option maxRecDepth 20000 in
theorem w_568 : (Jvm.Cond.code ({ cls := "MeshLines$Home", name := "takeGetm", desc := "(I)V" } : Jvm.MethodName) prog_6_method_5_code (4 : Nat) (Option.none : Option Jvm.ClassFile.FieldType)) ∈ evW := evWi (tj_3 _ (List.mem_of_getElem? (i := 88) rfl)) rfl
set_option maxRecDepth 20000 in
theorem w_569 : (Jvm.Cond.methodLink "MeshLines$Home" (67 : Nat) ({ cls := "java/lang/Integer", name := "bitCount", desc := "(I)I" } : Jvm.MethodName)) ∈ evW := evWi (tj_3 _ (List.mem_of_getElem? (i := 89) rfl)) rfl
set_option maxRecDepth 20000 in
theorem w_570 : (Jvm.Cond.static ({ cls := "java/lang/Integer", name := "bitCount", desc := "(I)I" } : Jvm.MethodName)) ∈ evW := evWi (tj_3 _ (List.mem_of_getElem? (i := 90) rfl)) rfl
set_option maxRecDepth 20000 in
theorem w_571 : (Jvm.Cond.code ({ cls := "java/lang/Integer", name := "bitCount", desc := "(I)I" } : Jvm.MethodName) prog_15_method_49_code (1 : Nat) (Option.some Jvm.ClassFile.FieldType.int)) ∈ evW := evWi (tj_3 _ (List.mem_of_getElem? (i := 91) rfl)) rfl
set_option maxRecDepth 20000 in
theorem w_575 : (Jvm.Cond.methodLink "MeshLines$Home" (47 : Nat) ({ cls := "MeshLines$Home", name := "takePuts", desc := "(I)V" } : Jvm.MethodName)) ∈ evW := evWi (tj_3 _ (List.mem_of_getElem? (i := 95) rfl)) rfl
set_option maxRecDepth 20000 in
theorem w_577 : (Jvm.Cond.instanceMethod ({ cls := "MeshLines$Home", name := "takePuts", desc := "(I)V" } : Jvm.MethodName)) ∈ evW := evWi (tj_3 _ (List.mem_of_getElem? (i := 97) rfl)) rfl
set_option maxRecDepth 20000 in
theorem w_578 : (Jvm.Cond.code ({ cls := "MeshLines$Home", name := "takePuts", desc := "(I)V" } : Jvm.MethodName) prog_6_method_6_code (2 : Nat) (Option.none : Option Jvm.ClassFile.FieldType)) ∈ evW := evWi (tj_3 _ (List.mem_of_getElem? (i := 98) rfl)) rfl
set_option maxRecDepth 20000 in
theorem w_579 : (Jvm.Cond.methodLink "MeshLines$Home" (72 : Nat) ({ cls := "MeshLines$Home", name := "dropSharer", desc := "(I)V" } : Jvm.MethodName)) ∈ evW := evWi (tj_3 _ (List.mem_of_getElem? (i := 99) rfl)) rfl
set_option maxRecDepth 20000 in
theorem w_581 : (Jvm.Cond.instanceMethod ({ cls := "MeshLines$Home", name := "dropSharer", desc := "(I)V" } : Jvm.MethodName)) ∈ evW := evWi (tj_3 _ (List.mem_of_getElem? (i := 101) rfl)) rfl
set_option maxRecDepth 20000 in
theorem w_582 : (Jvm.Cond.code ({ cls := "MeshLines$Home", name := "dropSharer", desc := "(I)V" } : Jvm.MethodName) prog_6_method_8_code (2 : Nat) (Option.none : Option Jvm.ClassFile.FieldType)) ∈ evW := evWi (tj_3 _ (List.mem_of_getElem? (i := 102) rfl)) rfl
set_option maxRecDepth 20000 in
theorem w_583 : (Jvm.Cond.methodLink "MeshLines$Home" (53 : Nat) ({ cls := "MeshLines$Home", name := "takePutm", desc := "(II)V" } : Jvm.MethodName)) ∈ evW := evWi (tj_3 _ (List.mem_of_getElem? (i := 103) rfl)) rfl
set_option maxRecDepth 20000 in
theorem w_585 : (Jvm.Cond.instanceMethod ({ cls := "MeshLines$Home", name := "takePutm", desc := "(II)V" } : Jvm.MethodName)) ∈ evW := evWi (tj_3 _ (List.mem_of_getElem? (i := 105) rfl)) rfl
set_option maxRecDepth 20000 in
theorem w_586 : (Jvm.Cond.code ({ cls := "MeshLines$Home", name := "takePutm", desc := "(II)V" } : Jvm.MethodName) prog_6_method_7_code (3 : Nat) (Option.none : Option Jvm.ClassFile.FieldType)) ∈ evW := evWi (tj_3 _ (List.mem_of_getElem? (i := 106) rfl)) rfl
set_option maxRecDepth 20000 in
theorem w_587 : (Jvm.Cond.methodLink "MeshLines$Node" (94 : Nat) ({ cls := "MeshLines$Cache", name := "take", desc := "(LMeshLines$Packet;)Z" } : Jvm.MethodName)) ∈ evW := evWi (tj_3 _ (List.mem_of_getElem? (i := 107) rfl)) rfl
set_option maxRecDepth 20000 in
theorem w_588 : (Jvm.Cond.instanceMethod ({ cls := "MeshLines$Cache", name := "take", desc := "(LMeshLines$Packet;)Z" } : Jvm.MethodName)) ∈ evW := evWi (tj_3 _ (List.mem_of_getElem? (i := 108) rfl)) rfl
set_option maxRecDepth 20000 in
theorem w_589 : (Jvm.Cond.selects "MeshLines$Cache" ({ cls := "MeshLines$Cache", name := "take", desc := "(LMeshLines$Packet;)Z" } : Jvm.MethodName) ({ cls := "MeshLines$Cache", name := "take", desc := "(LMeshLines$Packet;)Z" } : Jvm.MethodName)) ∈ evW := evWi (tj_3 _ (List.mem_of_getElem? (i := 109) rfl)) rfl
set_option maxRecDepth 20000 in
theorem w_590 : (Jvm.Cond.code ({ cls := "MeshLines$Cache", name := "take", desc := "(LMeshLines$Packet;)Z" } : Jvm.MethodName) prog_2_method_3_code (3 : Nat) (Option.some Jvm.ClassFile.FieldType.boolean)) ∈ evW := evWi (tj_3 _ (List.mem_of_getElem? (i := 110) rfl)) rfl
set_option maxRecDepth 20000 in
theorem w_591 : (Jvm.Cond.methodLink "MeshLines$Cache" (40 : Nat) ({ cls := "MeshLines$Cache", name := "takeData", desc := "(LMeshLines$Packet;)Z" } : Jvm.MethodName)) ∈ evW := evWi (tj_3 _ (List.mem_of_getElem? (i := 111) rfl)) rfl
set_option maxRecDepth 20000 in
theorem w_593 : (Jvm.Cond.instanceMethod ({ cls := "MeshLines$Cache", name := "takeData", desc := "(LMeshLines$Packet;)Z" } : Jvm.MethodName)) ∈ evW := evWi (tj_3 _ (List.mem_of_getElem? (i := 113) rfl)) rfl
set_option maxRecDepth 20000 in
theorem w_594 : (Jvm.Cond.code ({ cls := "MeshLines$Cache", name := "takeData", desc := "(LMeshLines$Packet;)Z" } : Jvm.MethodName) prog_2_method_4_code (4 : Nat) (Option.some Jvm.ClassFile.FieldType.boolean)) ∈ evW := evWi (tj_3 _ (List.mem_of_getElem? (i := 114) rfl)) rfl
set_option maxRecDepth 20000 in
theorem w_595 : (Jvm.Cond.methodLink "MeshLines$Cache" (44 : Nat) ({ cls := "MeshLines$Cache", name := "takeAck", desc := "(I)Z" } : Jvm.MethodName)) ∈ evW := evWi (tj_3 _ (List.mem_of_getElem? (i := 115) rfl)) rfl
set_option maxRecDepth 20000 in
theorem w_597 : (Jvm.Cond.instanceMethod ({ cls := "MeshLines$Cache", name := "takeAck", desc := "(I)Z" } : Jvm.MethodName)) ∈ evW := evWi (tj_3 _ (List.mem_of_getElem? (i := 117) rfl)) rfl
set_option maxRecDepth 20000 in
theorem w_598 : (Jvm.Cond.code ({ cls := "MeshLines$Cache", name := "takeAck", desc := "(I)Z" } : Jvm.MethodName) prog_2_method_5_code (3 : Nat) (Option.some Jvm.ClassFile.FieldType.boolean)) ∈ evW := evWi (tj_3 _ (List.mem_of_getElem? (i := 118) rfl)) rfl
set_option maxRecDepth 20000 in
theorem w_599 : (Jvm.Cond.methodLink "MeshLines$Cache" (48 : Nat) ({ cls := "MeshLines$Cache", name := "takeInv", desc := "(LMeshLines$Packet;)V" } : Jvm.MethodName)) ∈ evW := evWi (tj_3 _ (List.mem_of_getElem? (i := 119) rfl)) rfl
set_option maxRecDepth 20000 in
theorem w_601 : (Jvm.Cond.instanceMethod ({ cls := "MeshLines$Cache", name := "takeInv", desc := "(LMeshLines$Packet;)V" } : Jvm.MethodName)) ∈ evW := evWi (tj_3 _ (List.mem_of_getElem? (i := 121) rfl)) rfl
set_option maxRecDepth 20000 in
theorem w_602 : (Jvm.Cond.code ({ cls := "MeshLines$Cache", name := "takeInv", desc := "(LMeshLines$Packet;)V" } : Jvm.MethodName) prog_2_method_6_code (3 : Nat) (Option.none : Option Jvm.ClassFile.FieldType)) ∈ evW := evWi (tj_3 _ (List.mem_of_getElem? (i := 122) rfl)) rfl
set_option maxRecDepth 20000 in
theorem w_603 : (Jvm.Cond.methodLink "MeshLines$Cache" (52 : Nat) ({ cls := "MeshLines$Cache", name := "become", desc := "(II)V" } : Jvm.MethodName)) ∈ evW := evWi (tj_3 _ (List.mem_of_getElem? (i := 123) rfl)) rfl
set_option maxRecDepth 20000 in
theorem w_605 : (Jvm.Cond.instanceMethod ({ cls := "MeshLines$Cache", name := "become", desc := "(II)V" } : Jvm.MethodName)) ∈ evW := evWi (tj_3 _ (List.mem_of_getElem? (i := 125) rfl)) rfl
set_option maxRecDepth 20000 in
theorem w_606 : (Jvm.Cond.code ({ cls := "MeshLines$Cache", name := "become", desc := "(II)V" } : Jvm.MethodName) prog_2_method_7_code (3 : Nat) (Option.none : Option Jvm.ClassFile.FieldType)) ∈ evW := evWi (tj_3 _ (List.mem_of_getElem? (i := 126) rfl)) rfl
set_option maxRecDepth 20000 in
theorem w_607 : (Jvm.Cond.methodLink "MeshLines$Cache" (73 : Nat) ({ cls := "MeshLines$Mesh", name := "send", desc := "(IIIIIII)V" } : Jvm.MethodName)) ∈ evW := evWi (tj_3 _ (List.mem_of_getElem? (i := 127) rfl)) rfl
set_option maxRecDepth 20000 in
theorem w_608 : (Jvm.Cond.methodLink "MeshLines$Cache" (59 : Nat) ({ cls := "MeshLines$Cache", name := "giveData", desc := "(III)V" } : Jvm.MethodName)) ∈ evW := evWi (tj_3 _ (List.mem_of_getElem? (i := 128) rfl)) rfl
set_option maxRecDepth 20000 in
theorem w_610 : (Jvm.Cond.instanceMethod ({ cls := "MeshLines$Cache", name := "giveData", desc := "(III)V" } : Jvm.MethodName)) ∈ evW := evWi (tj_3 _ (List.mem_of_getElem? (i := 130) rfl)) rfl
set_option maxRecDepth 20000 in
theorem w_611 : (Jvm.Cond.code ({ cls := "MeshLines$Cache", name := "giveData", desc := "(III)V" } : Jvm.MethodName) prog_2_method_8_code (4 : Nat) (Option.none : Option Jvm.ClassFile.FieldType)) ∈ evW := evWi (tj_3 _ (List.mem_of_getElem? (i := 131) rfl)) rfl
set_option maxRecDepth 20000 in
theorem w_613 : (Jvm.Cond.methodLink "MeshLines$Node" (96 : Nat) ({ cls := "MeshLines$Core", name := "finishPresent", desc := "(I)V" } : Jvm.MethodName)) ∈ evW := evWi (tj_3 _ (List.mem_of_getElem? (i := 133) rfl)) rfl
set_option maxRecDepth 20000 in
theorem w_614 : (Jvm.Cond.instanceMethod ({ cls := "MeshLines$Core", name := "finishPresent", desc := "(I)V" } : Jvm.MethodName)) ∈ evW := evWi (tj_3 _ (List.mem_of_getElem? (i := 134) rfl)) rfl
set_option maxRecDepth 20000 in
theorem w_615 : (Jvm.Cond.selects "MeshLines$Core" ({ cls := "MeshLines$Core", name := "finishPresent", desc := "(I)V" } : Jvm.MethodName) ({ cls := "MeshLines$Core", name := "finishPresent", desc := "(I)V" } : Jvm.MethodName)) ∈ evW := evWi (tj_3 _ (List.mem_of_getElem? (i := 135) rfl)) rfl
set_option maxRecDepth 20000 in
theorem w_616 : (Jvm.Cond.code ({ cls := "MeshLines$Core", name := "finishPresent", desc := "(I)V" } : Jvm.MethodName) prog_3_method_5_code (4 : Nat) (Option.none : Option Jvm.ClassFile.FieldType)) ∈ evW := evWi (tj_3 _ (List.mem_of_getElem? (i := 136) rfl)) rfl
set_option maxRecDepth 20000 in
theorem w_617 : (Jvm.Cond.methodLink "MeshLines" (68 : Nat) ({ cls := "MeshLines$Core", name := "act", desc := "(I)V" } : Jvm.MethodName)) ∈ evW := evWi (tj_3 _ (List.mem_of_getElem? (i := 137) rfl)) rfl
set_option maxRecDepth 20000 in
theorem w_618 : (Jvm.Cond.instanceMethod ({ cls := "MeshLines$Core", name := "act", desc := "(I)V" } : Jvm.MethodName)) ∈ evW := evWi (tj_3 _ (List.mem_of_getElem? (i := 138) rfl)) rfl
set_option maxRecDepth 20000 in
theorem w_619 : (Jvm.Cond.selects "MeshLines$Core" ({ cls := "MeshLines$Core", name := "act", desc := "(I)V" } : Jvm.MethodName) ({ cls := "MeshLines$Core", name := "act", desc := "(I)V" } : Jvm.MethodName)) ∈ evW := evWi (tj_3 _ (List.mem_of_getElem? (i := 139) rfl)) rfl
set_option maxRecDepth 20000 in
theorem w_620 : (Jvm.Cond.code ({ cls := "MeshLines$Core", name := "act", desc := "(I)V" } : Jvm.MethodName) prog_3_method_3_code (5 : Nat) (Option.none : Option Jvm.ClassFile.FieldType)) ∈ evW := evWi (tj_3 _ (List.mem_of_getElem? (i := 140) rfl)) rfl
set_option maxRecDepth 20000 in
theorem w_621 : (Jvm.Cond.methodLink "MeshLines$Core" (46 : Nat) ({ cls := "MeshLines$Core", name := "finishPresent", desc := "(I)V" } : Jvm.MethodName)) ∈ evW := evWi (tj_3 _ (List.mem_of_getElem? (i := 141) rfl)) rfl
set_option maxRecDepth 20000 in
theorem w_622 : (Jvm.Cond.methodLink "MeshLines$Core" (50 : Nat) ({ cls := "MeshLines$Cache", name := "ask", desc := "(III)V" } : Jvm.MethodName)) ∈ evW := evWi (tj_3 _ (List.mem_of_getElem? (i := 142) rfl)) rfl
set_option maxRecDepth 20000 in
theorem w_623 : (Jvm.Cond.instanceMethod ({ cls := "MeshLines$Cache", name := "ask", desc := "(III)V" } : Jvm.MethodName)) ∈ evW := evWi (tj_3 _ (List.mem_of_getElem? (i := 143) rfl)) rfl
set_option maxRecDepth 20000 in
theorem w_624 : (Jvm.Cond.selects "MeshLines$Cache" ({ cls := "MeshLines$Cache", name := "ask", desc := "(III)V" } : Jvm.MethodName) ({ cls := "MeshLines$Cache", name := "ask", desc := "(III)V" } : Jvm.MethodName)) ∈ evW := evWi (tj_3 _ (List.mem_of_getElem? (i := 144) rfl)) rfl
set_option maxRecDepth 20000 in
theorem w_625 : (Jvm.Cond.code ({ cls := "MeshLines$Cache", name := "ask", desc := "(III)V" } : Jvm.MethodName) prog_2_method_10_code (4 : Nat) (Option.none : Option Jvm.ClassFile.FieldType)) ∈ evW := evWi (tj_3 _ (List.mem_of_getElem? (i := 145) rfl)) rfl
set_option maxRecDepth 20000 in
theorem w_626 : (Jvm.Cond.methodLink "MeshLines$Core" (54 : Nat) ({ cls := "MeshLines$Core", name := "fetch", desc := "(IZ)V" } : Jvm.MethodName)) ∈ evW := evWi (tj_3 _ (List.mem_of_getElem? (i := 146) rfl)) rfl
set_option maxRecDepth 20000 in
theorem w_628 : (Jvm.Cond.instanceMethod ({ cls := "MeshLines$Core", name := "fetch", desc := "(IZ)V" } : Jvm.MethodName)) ∈ evW := evWi (tj_3 _ (List.mem_of_getElem? (i := 148) rfl)) rfl
set_option maxRecDepth 20000 in
theorem w_629 : (Jvm.Cond.code ({ cls := "MeshLines$Core", name := "fetch", desc := "(IZ)V" } : Jvm.MethodName) prog_3_method_4_code (3 : Nat) (Option.none : Option Jvm.ClassFile.FieldType)) ∈ evW := evWi (tj_3 _ (List.mem_of_getElem? (i := 149) rfl)) rfl
set_option maxRecDepth 20000 in
theorem w_630 : (Jvm.Cond.methodLink "MeshLines$Core" (58 : Nat) ({ cls := "MeshLines$Cache", name := "hasRoomFor", desc := "(I)Z" } : Jvm.MethodName)) ∈ evW := evWi (tj_3 _ (List.mem_of_getElem? (i := 150) rfl)) rfl
set_option maxRecDepth 20000 in
theorem w_631 : (Jvm.Cond.instanceMethod ({ cls := "MeshLines$Cache", name := "hasRoomFor", desc := "(I)Z" } : Jvm.MethodName)) ∈ evW := evWi (tj_3 _ (List.mem_of_getElem? (i := 151) rfl)) rfl
set_option maxRecDepth 20000 in
theorem w_632 : (Jvm.Cond.selects "MeshLines$Cache" ({ cls := "MeshLines$Cache", name := "hasRoomFor", desc := "(I)Z" } : Jvm.MethodName) ({ cls := "MeshLines$Cache", name := "hasRoomFor", desc := "(I)Z" } : Jvm.MethodName)) ∈ evW := evWi (tj_3 _ (List.mem_of_getElem? (i := 152) rfl)) rfl
set_option maxRecDepth 20000 in
theorem w_633 : (Jvm.Cond.code ({ cls := "MeshLines$Cache", name := "hasRoomFor", desc := "(I)Z" } : Jvm.MethodName) prog_2_method_9_code (4 : Nat) (Option.some Jvm.ClassFile.FieldType.boolean)) ∈ evW := evWi (tj_3 _ (List.mem_of_getElem? (i := 153) rfl)) rfl
set_option maxRecDepth 20000 in
theorem w_634 : (Jvm.Cond.methodLink "MeshLines$Core" (62 : Nat) ({ cls := "MeshLines$Cache", name := "makeRoomFor", desc := "(I)V" } : Jvm.MethodName)) ∈ evW := evWi (tj_3 _ (List.mem_of_getElem? (i := 154) rfl)) rfl
set_option maxRecDepth 20000 in
theorem w_635 : (Jvm.Cond.instanceMethod ({ cls := "MeshLines$Cache", name := "makeRoomFor", desc := "(I)V" } : Jvm.MethodName)) ∈ evW := evWi (tj_3 _ (List.mem_of_getElem? (i := 155) rfl)) rfl
set_option maxRecDepth 20000 in
theorem w_636 : (Jvm.Cond.selects "MeshLines$Cache" ({ cls := "MeshLines$Cache", name := "makeRoomFor", desc := "(I)V" } : Jvm.MethodName) ({ cls := "MeshLines$Cache", name := "makeRoomFor", desc := "(I)V" } : Jvm.MethodName)) ∈ evW := evWi (tj_3 _ (List.mem_of_getElem? (i := 156) rfl)) rfl
set_option maxRecDepth 20000 in
theorem w_637 : (Jvm.Cond.code ({ cls := "MeshLines$Cache", name := "makeRoomFor", desc := "(I)V" } : Jvm.MethodName) prog_2_method_11_code (5 : Nat) (Option.none : Option Jvm.ClassFile.FieldType)) ∈ evW := evWi (tj_3 _ (List.mem_of_getElem? (i := 157) rfl)) rfl
set_option maxRecDepth 20000 in
theorem w_638 : (Jvm.Cond.methodLink "MeshLines$Cache" (79 : Nat) ({ cls := "MeshLines$Cache", name := "ask", desc := "(III)V" } : Jvm.MethodName)) ∈ evW := evWi (tj_3 _ (List.mem_of_getElem? (i := 158) rfl)) rfl
set_option maxRecDepth 20000 in
theorem w_639 : (Jvm.Cond.methodLink "MeshLinesLaw" (31 : Nat) ({ cls := "MeshLines", name := "result", desc := "(II)I" } : Jvm.MethodName)) ∈ evW := evWi (tj_3 _ (List.mem_of_getElem? (i := 159) rfl)) rfl
set_option maxRecDepth 20000 in
theorem w_640 : (Jvm.Cond.instanceMethod ({ cls := "MeshLines", name := "result", desc := "(II)I" } : Jvm.MethodName)) ∈ evW := evWi (tj_3 _ (List.mem_of_getElem? (i := 160) rfl)) rfl
set_option maxRecDepth 20000 in
theorem w_641 : (Jvm.Cond.selects "MeshLines" ({ cls := "MeshLines", name := "result", desc := "(II)I" } : Jvm.MethodName) ({ cls := "MeshLines", name := "result", desc := "(II)I" } : Jvm.MethodName)) ∈ evW := evWi (tj_3 _ (List.mem_of_getElem? (i := 161) rfl)) rfl
set_option maxRecDepth 20000 in
theorem w_642 : (Jvm.Cond.code ({ cls := "MeshLines", name := "result", desc := "(II)I" } : Jvm.MethodName) prog_1_method_4_code (4 : Nat) (Option.some Jvm.ClassFile.FieldType.int)) ∈ evW := evWi (tj_3 _ (List.mem_of_getElem? (i := 162) rfl)) rfl
set_option maxRecDepth 20000 in
theorem w_643 : (Jvm.Cond.methodLink "MeshLinesLaw" (36 : Nat) ({ cls := "MeshLines", name := "done", desc := "(I)I" } : Jvm.MethodName)) ∈ evW := evWi (tj_3 _ (List.mem_of_getElem? (i := 163) rfl)) rfl
set_option maxRecDepth 20000 in
theorem w_644 : (Jvm.Cond.instanceMethod ({ cls := "MeshLines", name := "done", desc := "(I)I" } : Jvm.MethodName)) ∈ evW := evWi (tj_3 _ (List.mem_of_getElem? (i := 164) rfl)) rfl
set_option maxRecDepth 20000 in
theorem w_645 : (Jvm.Cond.selects "MeshLines" ({ cls := "MeshLines", name := "done", desc := "(I)I" } : Jvm.MethodName) ({ cls := "MeshLines", name := "done", desc := "(I)I" } : Jvm.MethodName)) ∈ evW := evWi (tj_3 _ (List.mem_of_getElem? (i := 165) rfl)) rfl
set_option maxRecDepth 20000 in
theorem w_646 : (Jvm.Cond.code ({ cls := "MeshLines", name := "done", desc := "(I)I" } : Jvm.MethodName) prog_1_method_5_code (2 : Nat) (Option.some Jvm.ClassFile.FieldType.int)) ∈ evW := evWi (tj_3 _ (List.mem_of_getElem? (i := 166) rfl)) rfl
set_option maxRecDepth 20000 in
theorem w_647 : (Jvm.Cond.methodLink "MeshLinesLaw" (40 : Nat) ({ cls := "MeshLines", name := "cache", desc := "(III)I" } : Jvm.MethodName)) ∈ evW := evWi (tj_3 _ (List.mem_of_getElem? (i := 167) rfl)) rfl
set_option maxRecDepth 20000 in
theorem w_648 : (Jvm.Cond.instanceMethod ({ cls := "MeshLines", name := "cache", desc := "(III)I" } : Jvm.MethodName)) ∈ evW := evWi (tj_3 _ (List.mem_of_getElem? (i := 168) rfl)) rfl
set_option maxRecDepth 20000 in
theorem w_649 : (Jvm.Cond.selects "MeshLines" ({ cls := "MeshLines", name := "cache", desc := "(III)I" } : Jvm.MethodName) ({ cls := "MeshLines", name := "cache", desc := "(III)I" } : Jvm.MethodName)) ∈ evW := evWi (tj_3 _ (List.mem_of_getElem? (i := 169) rfl)) rfl
set_option maxRecDepth 20000 in
theorem w_650 : (Jvm.Cond.code ({ cls := "MeshLines", name := "cache", desc := "(III)I" } : Jvm.MethodName) prog_1_method_6_code (5 : Nat) (Option.some Jvm.ClassFile.FieldType.int)) ∈ evW := evWi (tj_3 _ (List.mem_of_getElem? (i := 170) rfl)) rfl
set_option maxRecDepth 20000 in
theorem w_651 : (Jvm.Cond.methodLink "MeshLinesLaw" (45 : Nat) ({ cls := "MeshLines", name := "home", desc := "(II)I" } : Jvm.MethodName)) ∈ evW := evWi (tj_3 _ (List.mem_of_getElem? (i := 171) rfl)) rfl
set_option maxRecDepth 20000 in
theorem w_652 : (Jvm.Cond.instanceMethod ({ cls := "MeshLines", name := "home", desc := "(II)I" } : Jvm.MethodName)) ∈ evW := evWi (tj_3 _ (List.mem_of_getElem? (i := 172) rfl)) rfl
set_option maxRecDepth 20000 in
theorem w_653 : (Jvm.Cond.selects "MeshLines" ({ cls := "MeshLines", name := "home", desc := "(II)I" } : Jvm.MethodName) ({ cls := "MeshLines", name := "home", desc := "(II)I" } : Jvm.MethodName)) ∈ evW := evWi (tj_3 _ (List.mem_of_getElem? (i := 173) rfl)) rfl
set_option maxRecDepth 20000 in
theorem w_654 : (Jvm.Cond.code ({ cls := "MeshLines", name := "home", desc := "(II)I" } : Jvm.MethodName) prog_1_method_7_code (4 : Nat) (Option.some Jvm.ClassFile.FieldType.int)) ∈ evW := evWi (tj_3 _ (List.mem_of_getElem? (i := 174) rfl)) rfl
set_option maxRecDepth 20000 in
theorem w_655 : (Jvm.Cond.methodLink "MeshLinesLaw" (49 : Nat) ({ cls := "MeshLines", name := "buffer", desc := "(III)I" } : Jvm.MethodName)) ∈ evW := evWi (tj_3 _ (List.mem_of_getElem? (i := 175) rfl)) rfl
set_option maxRecDepth 20000 in
theorem w_656 : (Jvm.Cond.instanceMethod ({ cls := "MeshLines", name := "buffer", desc := "(III)I" } : Jvm.MethodName)) ∈ evW := evWi (tj_3 _ (List.mem_of_getElem? (i := 176) rfl)) rfl
set_option maxRecDepth 20000 in
theorem w_657 : (Jvm.Cond.selects "MeshLines" ({ cls := "MeshLines", name := "buffer", desc := "(III)I" } : Jvm.MethodName) ({ cls := "MeshLines", name := "buffer", desc := "(III)I" } : Jvm.MethodName)) ∈ evW := evWi (tj_3 _ (List.mem_of_getElem? (i := 177) rfl)) rfl
set_option maxRecDepth 20000 in
theorem w_658 : (Jvm.Cond.code ({ cls := "MeshLines", name := "buffer", desc := "(III)I" } : Jvm.MethodName) prog_1_method_8_code (5 : Nat) (Option.some Jvm.ClassFile.FieldType.int)) ∈ evW := evWi (tj_3 _ (List.mem_of_getElem? (i := 178) rfl)) rfl
set_option maxRecDepth 20000 in
theorem w_659 : (Jvm.Cond.methodLink "MeshLines" (108 : Nat) ({ cls := "MeshLines$Mesh", name := "laneOf", desc := "(II)LMeshLines$Lane;" } : Jvm.MethodName)) ∈ evW := evWi (tj_3 _ (List.mem_of_getElem? (i := 179) rfl)) rfl
set_option maxRecDepth 20000 in
theorem w_660 : (Jvm.Cond.methodLink "MeshLines" (118 : Nat) ({ cls := "java/util/ArrayList", name := "size", desc := "()I" } : Jvm.MethodName)) ∈ evW := evWi (tj_3 _ (List.mem_of_getElem? (i := 180) rfl)) rfl
set_option maxRecDepth 20000 in
theorem w_661 : (Jvm.Cond.methodLink "MeshLinesLaw" (53 : Nat) ({ cls := "MeshLines", name := "held", desc := "(III)I" } : Jvm.MethodName)) ∈ evW := evWi (tj_3 _ (List.mem_of_getElem? (i := 181) rfl)) rfl
set_option maxRecDepth 20000 in
theorem w_662 : (Jvm.Cond.instanceMethod ({ cls := "MeshLines", name := "held", desc := "(III)I" } : Jvm.MethodName)) ∈ evW := evWi (tj_3 _ (List.mem_of_getElem? (i := 182) rfl)) rfl
set_option maxRecDepth 20000 in
theorem w_663 : (Jvm.Cond.selects "MeshLines" ({ cls := "MeshLines", name := "held", desc := "(III)I" } : Jvm.MethodName) ({ cls := "MeshLines", name := "held", desc := "(III)I" } : Jvm.MethodName)) ∈ evW := evWi (tj_3 _ (List.mem_of_getElem? (i := 183) rfl)) rfl
set_option maxRecDepth 20000 in
theorem w_664 : (Jvm.Cond.code ({ cls := "MeshLines", name := "held", desc := "(III)I" } : Jvm.MethodName) prog_1_method_9_code (5 : Nat) (Option.some Jvm.ClassFile.FieldType.int)) ∈ evW := evWi (tj_3 _ (List.mem_of_getElem? (i := 184) rfl)) rfl
set_option maxRecDepth 20000 in
theorem w_665 : (Jvm.Cond.methodLink "MeshLinesLaw" (57 : Nat) ({ cls := "MeshLines", name := "count", desc := "(I)I" } : Jvm.MethodName)) ∈ evW := evWi (tj_3 _ (List.mem_of_getElem? (i := 185) rfl)) rfl
set_option maxRecDepth 20000 in
theorem w_666 : (Jvm.Cond.instanceMethod ({ cls := "MeshLines", name := "count", desc := "(I)I" } : Jvm.MethodName)) ∈ evW := evWi (tj_3 _ (List.mem_of_getElem? (i := 186) rfl)) rfl
set_option maxRecDepth 20000 in
theorem w_667 : (Jvm.Cond.selects "MeshLines" ({ cls := "MeshLines", name := "count", desc := "(I)I" } : Jvm.MethodName) ({ cls := "MeshLines", name := "count", desc := "(I)I" } : Jvm.MethodName)) ∈ evW := evWi (tj_3 _ (List.mem_of_getElem? (i := 187) rfl)) rfl
set_option maxRecDepth 20000 in
theorem w_668 : (Jvm.Cond.code ({ cls := "MeshLines", name := "count", desc := "(I)I" } : Jvm.MethodName) prog_1_method_10_code (2 : Nat) (Option.some Jvm.ClassFile.FieldType.int)) ∈ evW := evWi (tj_3 _ (List.mem_of_getElem? (i := 188) rfl)) rfl
set_option maxRecDepth 20000 in
theorem w_669 : (Jvm.Cond.methodLink "MeshLinesLaw" (9 : Nat) ({ cls := "MeshLinesLaw", name := "cell", desc := "([II)I" } : Jvm.MethodName)) ∈ evW := evWi (tj_3 _ (List.mem_of_getElem? (i := 189) rfl)) rfl
set_option maxRecDepth 20000 in
theorem w_670 : (Jvm.Cond.static ({ cls := "MeshLinesLaw", name := "cell", desc := "([II)I" } : Jvm.MethodName)) ∈ evW := evWi (tj_3 _ (List.mem_of_getElem? (i := 190) rfl)) rfl
set_option maxRecDepth 20000 in
theorem w_671 : (Jvm.Cond.code ({ cls := "MeshLinesLaw", name := "cell", desc := "([II)I" } : Jvm.MethodName) method_2_code (2 : Nat) (Option.some Jvm.ClassFile.FieldType.int)) ∈ evW := evWi (tj_3 _ (List.mem_of_getElem? (i := 191) rfl)) rfl
set_option maxRecDepth 20000 in
theorem w_672 : (Jvm.Cond.classLink "MeshLinesLaw" (18 : Nat) "MeshLinesModel") ∈ evW := evWi (tj_3 _ (List.mem_of_getElem? (i := 192) rfl)) rfl
set_option maxRecDepth 20000 in
theorem w_673 : (Jvm.Cond.instantiable "MeshLinesModel" (41 : Nat)) ∈ evW := evWi (tj_3 _ (List.mem_of_getElem? (i := 193) rfl)) rfl
set_option maxRecDepth 20000 in
theorem w_674 : (Jvm.Cond.methodLink "MeshLinesLaw" (20 : Nat) ({ cls := "MeshLinesModel", name := "<init>", desc := "(II)V" } : Jvm.MethodName)) ∈ evW := evWi (tj_3 _ (List.mem_of_getElem? (i := 194) rfl)) rfl
set_option maxRecDepth 20000 in
theorem w_675 : (Jvm.Cond.instanceMethod ({ cls := "MeshLinesModel", name := "<init>", desc := "(II)V" } : Jvm.MethodName)) ∈ evW := evWi (tj_3 _ (List.mem_of_getElem? (i := 195) rfl)) rfl
set_option maxRecDepth 20000 in
theorem w_676 : (Jvm.Cond.code ({ cls := "MeshLinesModel", name := "<init>", desc := "(II)V" } : Jvm.MethodName) prog_12_method_1_code (4 : Nat) (Option.none : Option Jvm.ClassFile.FieldType)) ∈ evW := evWi (tj_3 _ (List.mem_of_getElem? (i := 196) rfl)) rfl
set_option maxRecDepth 20000 in
theorem w_677 : (Jvm.Cond.methodLink "MeshLinesModel" (1 : Nat) ({ cls := "java/lang/Object", name := "<init>", desc := "()V" } : Jvm.MethodName)) ∈ evW := evWi (tj_3 _ (List.mem_of_getElem? (i := 197) rfl)) rfl
set_option maxRecDepth 20000 in
theorem w_678 : (Jvm.Cond.fieldLink "MeshLinesModel" (116 : Nat) "MeshLinesModel" "depth" "I") ∈ evW := evWi (tj_3 _ (List.mem_of_getElem? (i := 198) rfl)) rfl
set_option maxRecDepth 20000 in
theorem w_679 : (Jvm.Cond.fieldLink "MeshLinesModel" (120 : Nat) "MeshLinesModel" "flits" "I") ∈ evW := evWi (tj_3 _ (List.mem_of_getElem? (i := 199) rfl)) rfl
set_option maxRecDepth 20000 in
theorem w_680 : (Jvm.Cond.fieldLink "MeshLinesModel" (130 : Nat) "MeshLinesModel" "cycle" "I") ∈ evW := evWi (tj_3 _ (List.mem_of_getElem? (i := 200) rfl)) rfl
set_option maxRecDepth 20000 in
theorem w_681 : (Jvm.Cond.fieldLink "MeshLinesModel" (7 : Nat) "MeshLinesModel" "live" "[Z") ∈ evW := evWi (tj_3 _ (List.mem_of_getElem? (i := 201) rfl)) rfl
set_option maxRecDepth 20000 in
theorem w_682 : (Jvm.Cond.fieldLink "MeshLinesModel" (13 : Nat) "MeshLinesModel" "kind" "[I") ∈ evW := evWi (tj_3 _ (List.mem_of_getElem? (i := 202) rfl)) rfl
set_option maxRecDepth 20000 in
theorem w_683 : (Jvm.Cond.fieldLink "MeshLinesModel" (17 : Nat) "MeshLinesModel" "line" "[I") ∈ evW := evWi (tj_3 _ (List.mem_of_getElem? (i := 203) rfl)) rfl
set_option maxRecDepth 20000 in
theorem w_684 : (Jvm.Cond.fieldLink "MeshLinesModel" (20 : Nat) "MeshLinesModel" "to" "[I") ∈ evW := evWi (tj_3 _ (List.mem_of_getElem? (i := 204) rfl)) rfl
set_option maxRecDepth 20000 in
theorem w_685 : (Jvm.Cond.fieldLink "MeshLinesModel" (23 : Nat) "MeshLinesModel" "sender" "[I") ∈ evW := evWi (tj_3 _ (List.mem_of_getElem? (i := 205) rfl)) rfl
set_option maxRecDepth 20000 in
theorem w_686 : (Jvm.Cond.fieldLink "MeshLinesModel" (26 : Nat) "MeshLinesModel" "asker" "[I") ∈ evW := evWi (tj_3 _ (List.mem_of_getElem? (i := 206) rfl)) rfl
set_option maxRecDepth 20000 in
theorem w_687 : (Jvm.Cond.fieldLink "MeshLinesModel" (29 : Nat) "MeshLinesModel" "value" "[I") ∈ evW := evWi (tj_3 _ (List.mem_of_getElem? (i := 207) rfl)) rfl
set_option maxRecDepth 20000 in
theorem w_688 : (Jvm.Cond.fieldLink "MeshLinesModel" (32 : Nat) "MeshLinesModel" "acks" "[I") ∈ evW := evWi (tj_3 _ (List.mem_of_getElem? (i := 208) rfl)) rfl
set_option maxRecDepth 20000 in
theorem w_689 : (Jvm.Cond.fieldLink "MeshLinesModel" (35 : Nat) "MeshLinesModel" "row" "[I") ∈ evW := evWi (tj_3 _ (List.mem_of_getElem? (i := 209) rfl)) rfl
set_option maxRecDepth 20000 in
theorem w_690 : (Jvm.Cond.fieldLink "MeshLinesModel" (38 : Nat) "MeshLinesModel" "rowCount" "[I") ∈ evW := evWi (tj_3 _ (List.mem_of_getElem? (i := 210) rfl)) rfl
set_option maxRecDepth 20000 in
theorem w_691 : (Jvm.Cond.fieldLink "MeshLinesModel" (41 : Nat) "MeshLinesModel" "given" "[I") ∈ evW := evWi (tj_3 _ (List.mem_of_getElem? (i := 211) rfl)) rfl
set_option maxRecDepth 20000 in
theorem w_692 : (Jvm.Cond.fieldLink "MeshLinesModel" (44 : Nat) "MeshLinesModel" "inbox" "[I") ∈ evW := evWi (tj_3 _ (List.mem_of_getElem? (i := 212) rfl)) rfl
set_option maxRecDepth 20000 in
theorem w_693 : (Jvm.Cond.fieldLink "MeshLinesModel" (47 : Nat) "MeshLinesModel" "inCount" "[I") ∈ evW := evWi (tj_3 _ (List.mem_of_getElem? (i := 213) rfl)) rfl
set_option maxRecDepth 20000 in
theorem w_694 : (Jvm.Cond.fieldLink "MeshLinesModel" (50 : Nat) "MeshLinesModel" "flitOf" "[I") ∈ evW := evWi (tj_3 _ (List.mem_of_getElem? (i := 214) rfl)) rfl
set_option maxRecDepth 20000 in
theorem w_695 : (Jvm.Cond.fieldLink "MeshLinesModel" (53 : Nat) "MeshLinesModel" "flitNumber" "[I") ∈ evW := evWi (tj_3 _ (List.mem_of_getElem? (i := 215) rfl)) rfl
set_option maxRecDepth 20000 in
theorem w_696 : (Jvm.Cond.fieldLink "MeshLinesModel" (56 : Nat) "MeshLinesModel" "cameIn" "[I") ∈ evW := evWi (tj_3 _ (List.mem_of_getElem? (i := 216) rfl)) rfl
set_option maxRecDepth 20000 in
theorem w_697 : (Jvm.Cond.fieldLink "MeshLinesModel" (59 : Nat) "MeshLinesModel" "bufferCount" "[I") ∈ evW := evWi (tj_3 _ (List.mem_of_getElem? (i := 217) rfl)) rfl
set_option maxRecDepth 20000 in
theorem w_698 : (Jvm.Cond.fieldLink "MeshLinesModel" (62 : Nat) "MeshLinesModel" "holder" "[I") ∈ evW := evWi (tj_3 _ (List.mem_of_getElem? (i := 218) rfl)) rfl
set_option maxRecDepth 20000 in
theorem w_699 : (Jvm.Cond.fieldLink "MeshLinesModel" (65 : Nat) "MeshLinesModel" "lastPort" "[I") ∈ evW := evWi (tj_3 _ (List.mem_of_getElem? (i := 219) rfl)) rfl
set_option maxRecDepth 20000 in
theorem w_700 : (Jvm.Cond.fieldLink "MeshLinesModel" (68 : Nat) "MeshLinesModel" "state" "[I") ∈ evW := evWi (tj_3 _ (List.mem_of_getElem? (i := 220) rfl)) rfl
set_option maxRecDepth 20000 in
theorem w_701 : (Jvm.Cond.fieldLink "MeshLinesModel" (71 : Nat) "MeshLinesModel" "copy" "[I") ∈ evW := evWi (tj_3 _ (List.mem_of_getElem? (i := 221) rfl)) rfl
set_option maxRecDepth 20000 in
theorem w_702 : (Jvm.Cond.fieldLink "MeshLinesModel" (74 : Nat) "MeshLinesModel" "needs" "[I") ∈ evW := evWi (tj_3 _ (List.mem_of_getElem? (i := 222) rfl)) rfl
set_option maxRecDepth 20000 in
theorem w_703 : (Jvm.Cond.fieldLink "MeshLinesModel" (77 : Nat) "MeshLinesModel" "usedAt" "[I") ∈ evW := evWi (tj_3 _ (List.mem_of_getElem? (i := 223) rfl)) rfl
set_option maxRecDepth 20000 in
theorem w_704 : (Jvm.Cond.fieldLink "MeshLinesModel" (80 : Nat) "MeshLinesModel" "homeState" "[I") ∈ evW := evWi (tj_3 _ (List.mem_of_getElem? (i := 224) rfl)) rfl
set_option maxRecDepth 20000 in
theorem w_705 : (Jvm.Cond.fieldLink "MeshLinesModel" (83 : Nat) "MeshLinesModel" "memory" "[I") ∈ evW := evWi (tj_3 _ (List.mem_of_getElem? (i := 225) rfl)) rfl
set_option maxRecDepth 20000 in
theorem w_706 : (Jvm.Cond.fieldLink "MeshLinesModel" (86 : Nat) "MeshLinesModel" "owner" "[I") ∈ evW := evWi (tj_3 _ (List.mem_of_getElem? (i := 226) rfl)) rfl
set_option maxRecDepth 20000 in
theorem w_707 : (Jvm.Cond.fieldLink "MeshLinesModel" (89 : Nat) "MeshLinesModel" "sharers" "[I") ∈ evW := evWi (tj_3 _ (List.mem_of_getElem? (i := 227) rfl)) rfl
set_option maxRecDepth 20000 in
theorem w_708 : (Jvm.Cond.fieldLink "MeshLinesModel" (92 : Nat) "MeshLinesModel" "opKind" "[I") ∈ evW := evWi (tj_3 _ (List.mem_of_getElem? (i := 228) rfl)) rfl
set_option maxRecDepth 20000 in
theorem w_709 : (Jvm.Cond.fieldLink "MeshLinesModel" (95 : Nat) "MeshLinesModel" "opLine" "[I") ∈ evW := evWi (tj_3 _ (List.mem_of_getElem? (i := 229) rfl)) rfl
set_option maxRecDepth 20000 in
theorem w_710 : (Jvm.Cond.fieldLink "MeshLinesModel" (98 : Nat) "MeshLinesModel" "opValue" "[I") ∈ evW := evWi (tj_3 _ (List.mem_of_getElem? (i := 230) rfl)) rfl
set_option maxRecDepth 20000 in
theorem w_711 : (Jvm.Cond.fieldLink "MeshLinesModel" (101 : Nat) "MeshLinesModel" "opDelay" "[I") ∈ evW := evWi (tj_3 _ (List.mem_of_getElem? (i := 231) rfl)) rfl
set_option maxRecDepth 20000 in
theorem w_712 : (Jvm.Cond.fieldLink "MeshLinesModel" (104 : Nat) "MeshLinesModel" "results" "[I") ∈ evW := evWi (tj_3 _ (List.mem_of_getElem? (i := 232) rfl)) rfl
set_option maxRecDepth 20000 in
theorem w_713 : (Jvm.Cond.fieldLink "MeshLinesModel" (107 : Nat) "MeshLinesModel" "operations" "[I") ∈ evW := evWi (tj_3 _ (List.mem_of_getElem? (i := 233) rfl)) rfl
set_option maxRecDepth 20000 in
theorem w_714 : (Jvm.Cond.fieldLink "MeshLinesModel" (110 : Nat) "MeshLinesModel" "doneCount" "[I") ∈ evW := evWi (tj_3 _ (List.mem_of_getElem? (i := 234) rfl)) rfl
set_option maxRecDepth 20000 in
theorem w_715 : (Jvm.Cond.fieldLink "MeshLinesModel" (113 : Nat) "MeshLinesModel" "rests" "[Z") ∈ evW := evWi (tj_3 _ (List.mem_of_getElem? (i := 235) rfl)) rfl
set_option maxRecDepth 20000 in
theorem w_716 : (Jvm.Cond.fieldLink "MeshLinesModel" (127 : Nat) "MeshLinesModel" "sent" "I") ∈ evW := evWi (tj_3 _ (List.mem_of_getElem? (i := 236) rfl)) rfl
set_option maxRecDepth 20000 in
theorem w_717 : (Jvm.Cond.fieldLink "MeshLinesModel" (158 : Nat) "MeshLinesModel" "arrived" "I") ∈ evW := evWi (tj_3 _ (List.mem_of_getElem? (i := 237) rfl)) rfl
set_option maxRecDepth 20000 in
theorem w_718 : (Jvm.Cond.fieldLink "MeshLinesModel" (155 : Nat) "MeshLinesModel" "crossed" "I") ∈ evW := evWi (tj_3 _ (List.mem_of_getElem? (i := 238) rfl)) rfl
set_option maxRecDepth 20000 in
theorem w_719 : (Jvm.Cond.laysFinal "MeshLinesModel" "MeshLinesModel" "depth" "I") ∈ evW := evWi (tj_3 _ (List.mem_of_getElem? (i := 239) rfl)) rfl
set_option maxRecDepth 20000 in
theorem w_721 : (Jvm.Cond.laysFinal "MeshLinesModel" "MeshLinesModel" "flits" "I") ∈ evW := evWi (tj_4 _ (List.mem_of_getElem? (i := 1) rfl)) rfl
set_option maxRecDepth 20000 in
theorem w_723 : (Jvm.Cond.lays "MeshLinesModel" "MeshLinesModel" "cycle" "I") ∈ evW := evWi (tj_4 _ (List.mem_of_getElem? (i := 3) rfl)) rfl
set_option maxRecDepth 20000 in
theorem w_725 : (Jvm.Cond.lays "MeshLinesModel" "MeshLinesModel" "live" "[Z") ∈ evW := evWi (tj_4 _ (List.mem_of_getElem? (i := 5) rfl)) rfl
set_option maxRecDepth 20000 in
theorem w_727 : (Jvm.Cond.lays "MeshLinesModel" "MeshLinesModel" "kind" "[I") ∈ evW := evWi (tj_4 _ (List.mem_of_getElem? (i := 7) rfl)) rfl
set_option maxRecDepth 20000 in
theorem w_729 : (Jvm.Cond.lays "MeshLinesModel" "MeshLinesModel" "line" "[I") ∈ evW := evWi (tj_4 _ (List.mem_of_getElem? (i := 9) rfl)) rfl
set_option maxRecDepth 20000 in
theorem w_731 : (Jvm.Cond.lays "MeshLinesModel" "MeshLinesModel" "to" "[I") ∈ evW := evWi (tj_4 _ (List.mem_of_getElem? (i := 11) rfl)) rfl
set_option maxRecDepth 20000 in
theorem w_733 : (Jvm.Cond.lays "MeshLinesModel" "MeshLinesModel" "sender" "[I") ∈ evW := evWi (tj_4 _ (List.mem_of_getElem? (i := 13) rfl)) rfl
set_option maxRecDepth 20000 in
theorem w_735 : (Jvm.Cond.lays "MeshLinesModel" "MeshLinesModel" "asker" "[I") ∈ evW := evWi (tj_4 _ (List.mem_of_getElem? (i := 15) rfl)) rfl
set_option maxRecDepth 20000 in
theorem w_737 : (Jvm.Cond.lays "MeshLinesModel" "MeshLinesModel" "value" "[I") ∈ evW := evWi (tj_4 _ (List.mem_of_getElem? (i := 17) rfl)) rfl
set_option maxRecDepth 20000 in
theorem w_739 : (Jvm.Cond.lays "MeshLinesModel" "MeshLinesModel" "acks" "[I") ∈ evW := evWi (tj_4 _ (List.mem_of_getElem? (i := 19) rfl)) rfl
set_option maxRecDepth 20000 in
theorem w_741 : (Jvm.Cond.lays "MeshLinesModel" "MeshLinesModel" "row" "[I") ∈ evW := evWi (tj_4 _ (List.mem_of_getElem? (i := 21) rfl)) rfl
set_option maxRecDepth 20000 in
theorem w_743 : (Jvm.Cond.lays "MeshLinesModel" "MeshLinesModel" "rowCount" "[I") ∈ evW := evWi (tj_4 _ (List.mem_of_getElem? (i := 23) rfl)) rfl
set_option maxRecDepth 20000 in
theorem w_745 : (Jvm.Cond.lays "MeshLinesModel" "MeshLinesModel" "given" "[I") ∈ evW := evWi (tj_4 _ (List.mem_of_getElem? (i := 25) rfl)) rfl
set_option maxRecDepth 20000 in
theorem w_747 : (Jvm.Cond.lays "MeshLinesModel" "MeshLinesModel" "inbox" "[I") ∈ evW := evWi (tj_4 _ (List.mem_of_getElem? (i := 27) rfl)) rfl
set_option maxRecDepth 20000 in
theorem w_749 : (Jvm.Cond.lays "MeshLinesModel" "MeshLinesModel" "inCount" "[I") ∈ evW := evWi (tj_4 _ (List.mem_of_getElem? (i := 29) rfl)) rfl
set_option maxRecDepth 20000 in
theorem w_751 : (Jvm.Cond.lays "MeshLinesModel" "MeshLinesModel" "flitOf" "[I") ∈ evW := evWi (tj_4 _ (List.mem_of_getElem? (i := 31) rfl)) rfl
set_option maxRecDepth 20000 in
theorem w_753 : (Jvm.Cond.lays "MeshLinesModel" "MeshLinesModel" "flitNumber" "[I") ∈ evW := evWi (tj_4 _ (List.mem_of_getElem? (i := 33) rfl)) rfl
set_option maxRecDepth 20000 in
theorem w_755 : (Jvm.Cond.lays "MeshLinesModel" "MeshLinesModel" "cameIn" "[I") ∈ evW := evWi (tj_4 _ (List.mem_of_getElem? (i := 35) rfl)) rfl
set_option maxRecDepth 20000 in
theorem w_757 : (Jvm.Cond.lays "MeshLinesModel" "MeshLinesModel" "bufferCount" "[I") ∈ evW := evWi (tj_4 _ (List.mem_of_getElem? (i := 37) rfl)) rfl
set_option maxRecDepth 20000 in
theorem w_759 : (Jvm.Cond.lays "MeshLinesModel" "MeshLinesModel" "holder" "[I") ∈ evW := evWi (tj_4 _ (List.mem_of_getElem? (i := 39) rfl)) rfl
set_option maxRecDepth 20000 in
theorem w_761 : (Jvm.Cond.lays "MeshLinesModel" "MeshLinesModel" "lastPort" "[I") ∈ evW := evWi (tj_4 _ (List.mem_of_getElem? (i := 41) rfl)) rfl
set_option maxRecDepth 20000 in
theorem w_763 : (Jvm.Cond.lays "MeshLinesModel" "MeshLinesModel" "state" "[I") ∈ evW := evWi (tj_4 _ (List.mem_of_getElem? (i := 43) rfl)) rfl
set_option maxRecDepth 20000 in
theorem w_765 : (Jvm.Cond.lays "MeshLinesModel" "MeshLinesModel" "copy" "[I") ∈ evW := evWi (tj_4 _ (List.mem_of_getElem? (i := 45) rfl)) rfl
set_option maxRecDepth 20000 in
theorem w_767 : (Jvm.Cond.lays "MeshLinesModel" "MeshLinesModel" "needs" "[I") ∈ evW := evWi (tj_4 _ (List.mem_of_getElem? (i := 47) rfl)) rfl
set_option maxRecDepth 20000 in
theorem w_769 : (Jvm.Cond.lays "MeshLinesModel" "MeshLinesModel" "usedAt" "[I") ∈ evW := evWi (tj_4 _ (List.mem_of_getElem? (i := 49) rfl)) rfl
set_option maxRecDepth 20000 in
theorem w_771 : (Jvm.Cond.lays "MeshLinesModel" "MeshLinesModel" "homeState" "[I") ∈ evW := evWi (tj_4 _ (List.mem_of_getElem? (i := 51) rfl)) rfl
set_option maxRecDepth 20000 in
theorem w_773 : (Jvm.Cond.lays "MeshLinesModel" "MeshLinesModel" "memory" "[I") ∈ evW := evWi (tj_4 _ (List.mem_of_getElem? (i := 53) rfl)) rfl
set_option maxRecDepth 20000 in
theorem w_775 : (Jvm.Cond.lays "MeshLinesModel" "MeshLinesModel" "owner" "[I") ∈ evW := evWi (tj_4 _ (List.mem_of_getElem? (i := 55) rfl)) rfl
set_option maxRecDepth 20000 in
theorem w_777 : (Jvm.Cond.lays "MeshLinesModel" "MeshLinesModel" "sharers" "[I") ∈ evW := evWi (tj_4 _ (List.mem_of_getElem? (i := 57) rfl)) rfl
set_option maxRecDepth 20000 in
theorem w_779 : (Jvm.Cond.lays "MeshLinesModel" "MeshLinesModel" "opKind" "[I") ∈ evW := evWi (tj_4 _ (List.mem_of_getElem? (i := 59) rfl)) rfl
set_option maxRecDepth 20000 in
theorem w_781 : (Jvm.Cond.lays "MeshLinesModel" "MeshLinesModel" "opLine" "[I") ∈ evW := evWi (tj_4 _ (List.mem_of_getElem? (i := 61) rfl)) rfl
set_option maxRecDepth 20000 in
theorem w_783 : (Jvm.Cond.lays "MeshLinesModel" "MeshLinesModel" "opValue" "[I") ∈ evW := evWi (tj_4 _ (List.mem_of_getElem? (i := 63) rfl)) rfl
set_option maxRecDepth 20000 in
theorem w_785 : (Jvm.Cond.lays "MeshLinesModel" "MeshLinesModel" "opDelay" "[I") ∈ evW := evWi (tj_4 _ (List.mem_of_getElem? (i := 65) rfl)) rfl
set_option maxRecDepth 20000 in
theorem w_787 : (Jvm.Cond.lays "MeshLinesModel" "MeshLinesModel" "results" "[I") ∈ evW := evWi (tj_4 _ (List.mem_of_getElem? (i := 67) rfl)) rfl
set_option maxRecDepth 20000 in
theorem w_789 : (Jvm.Cond.lays "MeshLinesModel" "MeshLinesModel" "operations" "[I") ∈ evW := evWi (tj_4 _ (List.mem_of_getElem? (i := 69) rfl)) rfl
set_option maxRecDepth 20000 in
theorem w_791 : (Jvm.Cond.lays "MeshLinesModel" "MeshLinesModel" "doneCount" "[I") ∈ evW := evWi (tj_4 _ (List.mem_of_getElem? (i := 71) rfl)) rfl
set_option maxRecDepth 20000 in
theorem w_793 : (Jvm.Cond.lays "MeshLinesModel" "MeshLinesModel" "rests" "[Z") ∈ evW := evWi (tj_4 _ (List.mem_of_getElem? (i := 73) rfl)) rfl
set_option maxRecDepth 20000 in
theorem w_795 : (Jvm.Cond.lays "MeshLinesModel" "MeshLinesModel" "sent" "I") ∈ evW := evWi (tj_4 _ (List.mem_of_getElem? (i := 75) rfl)) rfl
set_option maxRecDepth 20000 in
theorem w_797 : (Jvm.Cond.lays "MeshLinesModel" "MeshLinesModel" "arrived" "I") ∈ evW := evWi (tj_4 _ (List.mem_of_getElem? (i := 77) rfl)) rfl
set_option maxRecDepth 20000 in
theorem w_799 : (Jvm.Cond.lays "MeshLinesModel" "MeshLinesModel" "crossed" "I") ∈ evW := evWi (tj_4 _ (List.mem_of_getElem? (i := 79) rfl)) rfl
set_option maxRecDepth 20000 in
theorem w_802 : (Jvm.Cond.arrayClass Jvm.ClassFile.FieldType.boolean) ∈ evW := evWi (tj_4 _ (List.mem_of_getElem? (i := 82) rfl)) rfl
set_option maxRecDepth 20000 in
theorem w_803 : (Jvm.Cond.methodLink "MeshLinesLaw" (25 : Nat) ({ cls := "MeshLinesModel", name := "operation", desc := "(IIIII)I" } : Jvm.MethodName)) ∈ evW := evWi (tj_4 _ (List.mem_of_getElem? (i := 83) rfl)) rfl
set_option maxRecDepth 20000 in
theorem w_804 : (Jvm.Cond.instanceMethod ({ cls := "MeshLinesModel", name := "operation", desc := "(IIIII)I" } : Jvm.MethodName)) ∈ evW := evWi (tj_4 _ (List.mem_of_getElem? (i := 84) rfl)) rfl
set_option maxRecDepth 20000 in
theorem w_805 : (Jvm.Cond.selects "MeshLinesModel" ({ cls := "MeshLinesModel", name := "operation", desc := "(IIIII)I" } : Jvm.MethodName) ({ cls := "MeshLinesModel", name := "operation", desc := "(IIIII)I" } : Jvm.MethodName)) ∈ evW := evWi (tj_4 _ (List.mem_of_getElem? (i := 85) rfl)) rfl
set_option maxRecDepth 20000 in
theorem w_806 : (Jvm.Cond.code ({ cls := "MeshLinesModel", name := "operation", desc := "(IIIII)I" } : Jvm.MethodName) prog_12_method_32_code (7 : Nat) (Option.some Jvm.ClassFile.FieldType.int)) ∈ evW := evWi (tj_4 _ (List.mem_of_getElem? (i := 86) rfl)) rfl
set_option maxRecDepth 20000 in
theorem w_807 : (Jvm.Cond.methodLink "MeshLinesModel" (227 : Nat) ({ cls := "MeshLinesModel", name := "isNode", desc := "(I)Z" } : Jvm.MethodName)) ∈ evW := evWi (tj_4 _ (List.mem_of_getElem? (i := 87) rfl)) rfl
set_option maxRecDepth 20000 in
theorem w_808 : (Jvm.Cond.static ({ cls := "MeshLinesModel", name := "isNode", desc := "(I)Z" } : Jvm.MethodName)) ∈ evW := evWi (tj_4 _ (List.mem_of_getElem? (i := 88) rfl)) rfl
set_option maxRecDepth 20000 in
theorem w_809 : (Jvm.Cond.code ({ cls := "MeshLinesModel", name := "isNode", desc := "(I)Z" } : Jvm.MethodName) prog_12_method_2_code (1 : Nat) (Option.some Jvm.ClassFile.FieldType.boolean)) ∈ evW := evWi (tj_4 _ (List.mem_of_getElem? (i := 89) rfl)) rfl
set_option maxRecDepth 20000 in
theorem w_810 : (Jvm.Cond.methodLink "MeshLinesModel" (230 : Nat) ({ cls := "MeshLinesModel", name := "isLine", desc := "(I)Z" } : Jvm.MethodName)) ∈ evW := evWi (tj_4 _ (List.mem_of_getElem? (i := 90) rfl)) rfl
set_option maxRecDepth 20000 in
theorem w_811 : (Jvm.Cond.static ({ cls := "MeshLinesModel", name := "isLine", desc := "(I)Z" } : Jvm.MethodName)) ∈ evW := evWi (tj_4 _ (List.mem_of_getElem? (i := 91) rfl)) rfl
set_option maxRecDepth 20000 in
theorem w_812 : (Jvm.Cond.code ({ cls := "MeshLinesModel", name := "isLine", desc := "(I)Z" } : Jvm.MethodName) prog_12_method_3_code (1 : Nat) (Option.some Jvm.ClassFile.FieldType.boolean)) ∈ evW := evWi (tj_4 _ (List.mem_of_getElem? (i := 92) rfl)) rfl
set_option maxRecDepth 20000 in
theorem w_813 : (Jvm.Cond.methodLink "MeshLinesLaw" (30 : Nat) ({ cls := "MeshLinesModel", name := "run", desc := "(I)I" } : Jvm.MethodName)) ∈ evW := evWi (tj_4 _ (List.mem_of_getElem? (i := 93) rfl)) rfl
set_option maxRecDepth 20000 in
theorem w_814 : (Jvm.Cond.instanceMethod ({ cls := "MeshLinesModel", name := "run", desc := "(I)I" } : Jvm.MethodName)) ∈ evW := evWi (tj_4 _ (List.mem_of_getElem? (i := 94) rfl)) rfl
set_option maxRecDepth 20000 in
theorem w_815 : (Jvm.Cond.selects "MeshLinesModel" ({ cls := "MeshLinesModel", name := "run", desc := "(I)I" } : Jvm.MethodName) ({ cls := "MeshLinesModel", name := "run", desc := "(I)I" } : Jvm.MethodName)) ∈ evW := evWi (tj_4 _ (List.mem_of_getElem? (i := 95) rfl)) rfl
set_option maxRecDepth 20000 in
theorem w_816 : (Jvm.Cond.code ({ cls := "MeshLinesModel", name := "run", desc := "(I)I" } : Jvm.MethodName) prog_12_method_33_code (3 : Nat) (Option.some Jvm.ClassFile.FieldType.int)) ∈ evW := evWi (tj_4 _ (List.mem_of_getElem? (i := 96) rfl)) rfl
set_option maxRecDepth 20000 in
theorem w_817 : (Jvm.Cond.methodLink "MeshLinesModel" (233 : Nat) ({ cls := "MeshLinesModel", name := "oneCycle", desc := "()V" } : Jvm.MethodName)) ∈ evW := evWi (tj_4 _ (List.mem_of_getElem? (i := 97) rfl)) rfl
set_option maxRecDepth 20000 in
theorem w_819 : (Jvm.Cond.instanceMethod ({ cls := "MeshLinesModel", name := "oneCycle", desc := "()V" } : Jvm.MethodName)) ∈ evW := evWi (tj_4 _ (List.mem_of_getElem? (i := 99) rfl)) rfl
set_option maxRecDepth 20000 in
theorem w_820 : (Jvm.Cond.code ({ cls := "MeshLinesModel", name := "oneCycle", desc := "()V" } : Jvm.MethodName) prog_12_method_31_code (5 : Nat) (Option.none : Option Jvm.ClassFile.FieldType)) ∈ evW := evWi (tj_4 _ (List.mem_of_getElem? (i := 100) rfl)) rfl
set_option maxRecDepth 20000 in
theorem w_821 : (Jvm.Cond.methodLink "MeshLinesModel" (215 : Nat) ({ cls := "MeshLinesModel", name := "inject", desc := "(II)V" } : Jvm.MethodName)) ∈ evW := evWi (tj_4 _ (List.mem_of_getElem? (i := 101) rfl)) rfl
set_option maxRecDepth 20000 in
theorem w_823 : (Jvm.Cond.instanceMethod ({ cls := "MeshLinesModel", name := "inject", desc := "(II)V" } : Jvm.MethodName)) ∈ evW := evWi (tj_4 _ (List.mem_of_getElem? (i := 103) rfl)) rfl
set_option maxRecDepth 20000 in
theorem w_824 : (Jvm.Cond.code ({ cls := "MeshLinesModel", name := "inject", desc := "(II)V" } : Jvm.MethodName) prog_12_method_11_code (7 : Nat) (Option.none : Option Jvm.ClassFile.FieldType)) ∈ evW := evWi (tj_4 _ (List.mem_of_getElem? (i := 104) rfl)) rfl
set_option maxRecDepth 20000 in
theorem w_825 : (Jvm.Cond.methodLink "MeshLinesModel" (133 : Nat) ({ cls := "MeshLinesModel", name := "append", desc := "(III)V" } : Jvm.MethodName)) ∈ evW := evWi (tj_4 _ (List.mem_of_getElem? (i := 105) rfl)) rfl
set_option maxRecDepth 20000 in
theorem w_827 : (Jvm.Cond.instanceMethod ({ cls := "MeshLinesModel", name := "append", desc := "(III)V" } : Jvm.MethodName)) ∈ evW := evWi (tj_4 _ (List.mem_of_getElem? (i := 107) rfl)) rfl
set_option maxRecDepth 20000 in
theorem w_828 : (Jvm.Cond.code ({ cls := "MeshLinesModel", name := "append", desc := "(III)V" } : Jvm.MethodName) prog_12_method_9_code (5 : Nat) (Option.none : Option Jvm.ClassFile.FieldType)) ∈ evW := evWi (tj_4 _ (List.mem_of_getElem? (i := 108) rfl)) rfl
set_option maxRecDepth 20000 in
theorem w_829 : (Jvm.Cond.methodLink "MeshLinesModel" (137 : Nat) ({ cls := "MeshLinesModel", name := "sizeOf", desc := "(I)I" } : Jvm.MethodName)) ∈ evW := evWi (tj_4 _ (List.mem_of_getElem? (i := 109) rfl)) rfl
set_option maxRecDepth 20000 in
theorem w_831 : (Jvm.Cond.instanceMethod ({ cls := "MeshLinesModel", name := "sizeOf", desc := "(I)I" } : Jvm.MethodName)) ∈ evW := evWi (tj_4 _ (List.mem_of_getElem? (i := 111) rfl)) rfl
set_option maxRecDepth 20000 in
theorem w_832 : (Jvm.Cond.code ({ cls := "MeshLinesModel", name := "sizeOf", desc := "(I)I" } : Jvm.MethodName) prog_12_method_5_code (2 : Nat) (Option.some Jvm.ClassFile.FieldType.int)) ∈ evW := evWi (tj_4 _ (List.mem_of_getElem? (i := 112) rfl)) rfl
set_option maxRecDepth 20000 in
theorem w_833 : (Jvm.Cond.methodLink "MeshLinesModel" (218 : Nat) ({ cls := "MeshLinesModel", name := "moves", desc := "(III)Z" } : Jvm.MethodName)) ∈ evW := evWi (tj_4 _ (List.mem_of_getElem? (i := 113) rfl)) rfl
set_option maxRecDepth 20000 in
theorem w_835 : (Jvm.Cond.instanceMethod ({ cls := "MeshLinesModel", name := "moves", desc := "(III)Z" } : Jvm.MethodName)) ∈ evW := evWi (tj_4 _ (List.mem_of_getElem? (i := 115) rfl)) rfl
set_option maxRecDepth 20000 in
theorem w_836 : (Jvm.Cond.code ({ cls := "MeshLinesModel", name := "moves", desc := "(III)Z" } : Jvm.MethodName) prog_12_method_13_code (14 : Nat) (Option.some Jvm.ClassFile.FieldType.boolean)) ∈ evW := evWi (tj_4 _ (List.mem_of_getElem? (i := 116) rfl)) rfl
set_option maxRecDepth 20000 in
theorem w_837 : (Jvm.Cond.methodLink "MeshLinesModel" (144 : Nat) ({ cls := "MeshLinesModel", name := "served", desc := "(III)I" } : Jvm.MethodName)) ∈ evW := evWi (tj_4 _ (List.mem_of_getElem? (i := 117) rfl)) rfl
set_option maxRecDepth 20000 in
theorem w_839 : (Jvm.Cond.instanceMethod ({ cls := "MeshLinesModel", name := "served", desc := "(III)I" } : Jvm.MethodName)) ∈ evW := evWi (tj_4 _ (List.mem_of_getElem? (i := 119) rfl)) rfl
set_option maxRecDepth 20000 in
theorem w_840 : (Jvm.Cond.code ({ cls := "MeshLinesModel", name := "served", desc := "(III)I" } : Jvm.MethodName) prog_12_method_12_code (9 : Nat) (Option.some Jvm.ClassFile.FieldType.int)) ∈ evW := evWi (tj_4 _ (List.mem_of_getElem? (i := 120) rfl)) rfl
set_option maxRecDepth 20000 in
theorem w_841 : (Jvm.Cond.methodLink "MeshLinesModel" (140 : Nat) ({ cls := "MeshLinesModel", name := "way", desc := "(II)I" } : Jvm.MethodName)) ∈ evW := evWi (tj_4 _ (List.mem_of_getElem? (i := 121) rfl)) rfl
set_option maxRecDepth 20000 in
theorem w_842 : (Jvm.Cond.static ({ cls := "MeshLinesModel", name := "way", desc := "(II)I" } : Jvm.MethodName)) ∈ evW := evWi (tj_4 _ (List.mem_of_getElem? (i := 122) rfl)) rfl
set_option maxRecDepth 20000 in
theorem w_843 : (Jvm.Cond.code ({ cls := "MeshLinesModel", name := "way", desc := "(II)I" } : Jvm.MethodName) prog_12_method_7_code (4 : Nat) (Option.some Jvm.ClassFile.FieldType.int)) ∈ evW := evWi (tj_4 _ (List.mem_of_getElem? (i := 123) rfl)) rfl
set_option maxRecDepth 20000 in
theorem w_844 : (Jvm.Cond.methodLink "MeshLinesModel" (148 : Nat) ({ cls := "MeshLinesModel", name := "neighbour", desc := "(II)I" } : Jvm.MethodName)) ∈ evW := evWi (tj_4 _ (List.mem_of_getElem? (i := 124) rfl)) rfl
set_option maxRecDepth 20000 in
theorem w_845 : (Jvm.Cond.static ({ cls := "MeshLinesModel", name := "neighbour", desc := "(II)I" } : Jvm.MethodName)) ∈ evW := evWi (tj_4 _ (List.mem_of_getElem? (i := 125) rfl)) rfl
set_option maxRecDepth 20000 in
theorem w_846 : (Jvm.Cond.code ({ cls := "MeshLinesModel", name := "neighbour", desc := "(II)I" } : Jvm.MethodName) prog_12_method_8_code (2 : Nat) (Option.some Jvm.ClassFile.FieldType.int)) ∈ evW := evWi (tj_4 _ (List.mem_of_getElem? (i := 126) rfl)) rfl
set_option maxRecDepth 20000 in
theorem w_847 : (Jvm.Cond.methodLink "MeshLinesModel" (151 : Nat) ({ cls := "MeshLinesModel", name := "removeFront", desc := "(I)V" } : Jvm.MethodName)) ∈ evW := evWi (tj_4 _ (List.mem_of_getElem? (i := 127) rfl)) rfl
set_option maxRecDepth 20000 in
theorem w_849 : (Jvm.Cond.instanceMethod ({ cls := "MeshLinesModel", name := "removeFront", desc := "(I)V" } : Jvm.MethodName)) ∈ evW := evWi (tj_4 _ (List.mem_of_getElem? (i := 129) rfl)) rfl
set_option maxRecDepth 20000 in
theorem w_850 : (Jvm.Cond.code ({ cls := "MeshLinesModel", name := "removeFront", desc := "(I)V" } : Jvm.MethodName) prog_12_method_10_code (3 : Nat) (Option.none : Option Jvm.ClassFile.FieldType)) ∈ evW := evWi (tj_4 _ (List.mem_of_getElem? (i := 130) rfl)) rfl
set_option maxRecDepth 20000 in
theorem w_851 : (Jvm.Cond.methodLink "MeshLinesModel" (221 : Nat) ({ cls := "MeshLinesModel", name := "takeFirst", desc := "(II)V" } : Jvm.MethodName)) ∈ evW := evWi (tj_4 _ (List.mem_of_getElem? (i := 131) rfl)) rfl
set_option maxRecDepth 20000 in
theorem w_853 : (Jvm.Cond.instanceMethod ({ cls := "MeshLinesModel", name := "takeFirst", desc := "(II)V" } : Jvm.MethodName)) ∈ evW := evWi (tj_4 _ (List.mem_of_getElem? (i := 133) rfl)) rfl
set_option maxRecDepth 20000 in
theorem w_854 : (Jvm.Cond.code ({ cls := "MeshLinesModel", name := "takeFirst", desc := "(II)V" } : Jvm.MethodName) prog_12_method_27_code (6 : Nat) (Option.none : Option Jvm.ClassFile.FieldType)) ∈ evW := evWi (tj_4 _ (List.mem_of_getElem? (i := 134) rfl)) rfl
set_option maxRecDepth 20000 in
theorem w_855 : (Jvm.Cond.methodLink "MeshLinesModel" (202 : Nat) ({ cls := "MeshLinesModel", name := "isBehind", desc := "(II)Z" } : Jvm.MethodName)) ∈ evW := evWi (tj_4 _ (List.mem_of_getElem? (i := 135) rfl)) rfl
set_option maxRecDepth 20000 in
theorem w_857 : (Jvm.Cond.instanceMethod ({ cls := "MeshLinesModel", name := "isBehind", desc := "(II)Z" } : Jvm.MethodName)) ∈ evW := evWi (tj_4 _ (List.mem_of_getElem? (i := 137) rfl)) rfl
set_option maxRecDepth 20000 in
theorem w_858 : (Jvm.Cond.code ({ cls := "MeshLinesModel", name := "isBehind", desc := "(II)Z" } : Jvm.MethodName) prog_12_method_26_code (5 : Nat) (Option.some Jvm.ClassFile.FieldType.boolean)) ∈ evW := evWi (tj_4 _ (List.mem_of_getElem? (i := 138) rfl)) rfl
set_option maxRecDepth 20000 in
theorem w_859 : (Jvm.Cond.methodLink "MeshLinesModel" (205 : Nat) ({ cls := "MeshLinesModel", name := "takes", desc := "(II)Z" } : Jvm.MethodName)) ∈ evW := evWi (tj_4 _ (List.mem_of_getElem? (i := 139) rfl)) rfl
set_option maxRecDepth 20000 in
theorem w_861 : (Jvm.Cond.instanceMethod ({ cls := "MeshLinesModel", name := "takes", desc := "(II)Z" } : Jvm.MethodName)) ∈ evW := evWi (tj_4 _ (List.mem_of_getElem? (i := 141) rfl)) rfl
set_option maxRecDepth 20000 in
theorem w_862 : (Jvm.Cond.code ({ cls := "MeshLinesModel", name := "takes", desc := "(II)Z" } : Jvm.MethodName) prog_12_method_25_code (5 : Nat) (Option.some Jvm.ClassFile.FieldType.boolean)) ∈ evW := evWi (tj_4 _ (List.mem_of_getElem? (i := 142) rfl)) rfl
set_option maxRecDepth 20000 in
theorem w_863 : (Jvm.Cond.methodLink "MeshLinesModel" (178 : Nat) ({ cls := "MeshLinesModel", name := "gets", desc := "(III)Z" } : Jvm.MethodName)) ∈ evW := evWi (tj_4 _ (List.mem_of_getElem? (i := 143) rfl)) rfl
set_option maxRecDepth 20000 in
theorem w_865 : (Jvm.Cond.instanceMethod ({ cls := "MeshLinesModel", name := "gets", desc := "(III)Z" } : Jvm.MethodName)) ∈ evW := evWi (tj_4 _ (List.mem_of_getElem? (i := 145) rfl)) rfl
set_option maxRecDepth 20000 in
theorem w_866 : (Jvm.Cond.code ({ cls := "MeshLinesModel", name := "gets", desc := "(III)Z" } : Jvm.MethodName) prog_12_method_22_code (4 : Nat) (Option.some Jvm.ClassFile.FieldType.boolean)) ∈ evW := evWi (tj_4 _ (List.mem_of_getElem? (i := 146) rfl)) rfl
set_option maxRecDepth 20000 in
theorem w_867 : (Jvm.Cond.methodLink "MeshLinesModel" (165 : Nat) ({ cls := "MeshLinesModel", name := "send", desc := "(IIIIIII)V" } : Jvm.MethodName)) ∈ evW := evWi (tj_4 _ (List.mem_of_getElem? (i := 147) rfl)) rfl
set_option maxRecDepth 20000 in
theorem w_869 : (Jvm.Cond.instanceMethod ({ cls := "MeshLinesModel", name := "send", desc := "(IIIIIII)V" } : Jvm.MethodName)) ∈ evW := evWi (tj_4 _ (List.mem_of_getElem? (i := 149) rfl)) rfl
set_option maxRecDepth 20000 in
theorem w_870 : (Jvm.Cond.code ({ cls := "MeshLinesModel", name := "send", desc := "(IIIIIII)V" } : Jvm.MethodName) prog_12_method_6_code (10 : Nat) (Option.none : Option Jvm.ClassFile.FieldType)) ∈ evW := evWi (tj_4 _ (List.mem_of_getElem? (i := 150) rfl)) rfl
set_option maxRecDepth 20000 in
theorem w_871 : (Jvm.Cond.methodLink "MeshLinesModel" (123 : Nat) ({ cls := "MeshLinesModel", name := "channelOf", desc := "(I)I" } : Jvm.MethodName)) ∈ evW := evWi (tj_4 _ (List.mem_of_getElem? (i := 151) rfl)) rfl
set_option maxRecDepth 20000 in
theorem w_872 : (Jvm.Cond.static ({ cls := "MeshLinesModel", name := "channelOf", desc := "(I)I" } : Jvm.MethodName)) ∈ evW := evWi (tj_4 _ (List.mem_of_getElem? (i := 152) rfl)) rfl
set_option maxRecDepth 20000 in
theorem w_873 : (Jvm.Cond.code ({ cls := "MeshLinesModel", name := "channelOf", desc := "(I)I" } : Jvm.MethodName) prog_12_method_4_code (1 : Nat) (Option.some Jvm.ClassFile.FieldType.int)) ∈ evW := evWi (tj_4 _ (List.mem_of_getElem? (i := 153) rfl)) rfl
set_option maxRecDepth 20000 in
theorem w_874 : (Jvm.Cond.methodLink "MeshLinesModel" (182 : Nat) ({ cls := "MeshLinesModel", name := "getm", desc := "(III)Z" } : Jvm.MethodName)) ∈ evW := evWi (tj_4 _ (List.mem_of_getElem? (i := 154) rfl)) rfl
set_option maxRecDepth 20000 in
theorem w_876 : (Jvm.Cond.instanceMethod ({ cls := "MeshLinesModel", name := "getm", desc := "(III)Z" } : Jvm.MethodName)) ∈ evW := evWi (tj_4 _ (List.mem_of_getElem? (i := 156) rfl)) rfl
set_option maxRecDepth 20000 in
theorem w_877 : (Jvm.Cond.code ({ cls := "MeshLinesModel", name := "getm", desc := "(III)Z" } : Jvm.MethodName) prog_12_method_23_code (7 : Nat) (Option.some Jvm.ClassFile.FieldType.boolean)) ∈ evW := evWi (tj_4 _ (List.mem_of_getElem? (i := 157) rfl)) rfl
set_option maxRecDepth 20000 in
theorem w_878 : (Jvm.Cond.methodLink "MeshLinesModel" (175 : Nat) ({ cls := "MeshLinesModel", name := "gone", desc := "(II)V" } : Jvm.MethodName)) ∈ evW := evWi (tj_4 _ (List.mem_of_getElem? (i := 158) rfl)) rfl
set_option maxRecDepth 20000 in
theorem w_880 : (Jvm.Cond.instanceMethod ({ cls := "MeshLinesModel", name := "gone", desc := "(II)V" } : Jvm.MethodName)) ∈ evW := evWi (tj_4 _ (List.mem_of_getElem? (i := 160) rfl)) rfl
set_option maxRecDepth 20000 in
theorem w_881 : (Jvm.Cond.code ({ cls := "MeshLinesModel", name := "gone", desc := "(II)V" } : Jvm.MethodName) prog_12_method_21_code (3 : Nat) (Option.none : Option Jvm.ClassFile.FieldType)) ∈ evW := evWi (tj_4 _ (List.mem_of_getElem? (i := 161) rfl)) rfl
set_option maxRecDepth 20000 in
theorem w_882 : (Jvm.Cond.methodLink "MeshLinesModel" (185 : Nat) ({ cls := "MeshLinesModel", name := "putm", desc := "(III)V" } : Jvm.MethodName)) ∈ evW := evWi (tj_4 _ (List.mem_of_getElem? (i := 162) rfl)) rfl
set_option maxRecDepth 20000 in
theorem w_884 : (Jvm.Cond.instanceMethod ({ cls := "MeshLinesModel", name := "putm", desc := "(III)V" } : Jvm.MethodName)) ∈ evW := evWi (tj_4 _ (List.mem_of_getElem? (i := 164) rfl)) rfl
set_option maxRecDepth 20000 in
theorem w_885 : (Jvm.Cond.code ({ cls := "MeshLinesModel", name := "putm", desc := "(III)V" } : Jvm.MethodName) prog_12_method_24_code (4 : Nat) (Option.none : Option Jvm.ClassFile.FieldType)) ∈ evW := evWi (tj_4 _ (List.mem_of_getElem? (i := 165) rfl)) rfl
set_option maxRecDepth 20000 in
theorem w_886 : (Jvm.Cond.methodLink "MeshLinesModel" (188 : Nat) ({ cls := "MeshLinesModel", name := "forward", desc := "(IIZ)Z" } : Jvm.MethodName)) ∈ evW := evWi (tj_4 _ (List.mem_of_getElem? (i := 166) rfl)) rfl
set_option maxRecDepth 20000 in
theorem w_888 : (Jvm.Cond.instanceMethod ({ cls := "MeshLinesModel", name := "forward", desc := "(IIZ)Z" } : Jvm.MethodName)) ∈ evW := evWi (tj_4 _ (List.mem_of_getElem? (i := 168) rfl)) rfl
set_option maxRecDepth 20000 in
theorem w_889 : (Jvm.Cond.code ({ cls := "MeshLinesModel", name := "forward", desc := "(IIZ)Z" } : Jvm.MethodName) prog_12_method_18_code (7 : Nat) (Option.some Jvm.ClassFile.FieldType.boolean)) ∈ evW := evWi (tj_4 _ (List.mem_of_getElem? (i := 169) rfl)) rfl
set_option maxRecDepth 20000 in
theorem w_890 : (Jvm.Cond.methodLink "MeshLinesModel" (169 : Nat) ({ cls := "MeshLinesModel", name := "homeOf", desc := "(I)I" } : Jvm.MethodName)) ∈ evW := evWi (tj_4 _ (List.mem_of_getElem? (i := 170) rfl)) rfl
set_option maxRecDepth 20000 in
theorem w_891 : (Jvm.Cond.static ({ cls := "MeshLinesModel", name := "homeOf", desc := "(I)I" } : Jvm.MethodName)) ∈ evW := evWi (tj_4 _ (List.mem_of_getElem? (i := 171) rfl)) rfl
set_option maxRecDepth 20000 in
theorem w_892 : (Jvm.Cond.code ({ cls := "MeshLinesModel", name := "homeOf", desc := "(I)I" } : Jvm.MethodName) prog_12_method_14_code (1 : Nat) (Option.some Jvm.ClassFile.FieldType.int)) ∈ evW := evWi (tj_4 _ (List.mem_of_getElem? (i := 172) rfl)) rfl
set_option maxRecDepth 20000 in
theorem w_893 : (Jvm.Cond.methodLink "MeshLinesModel" (192 : Nat) ({ cls := "MeshLinesModel", name := "invalidate", desc := "(II)Z" } : Jvm.MethodName)) ∈ evW := evWi (tj_4 _ (List.mem_of_getElem? (i := 173) rfl)) rfl
set_option maxRecDepth 20000 in
theorem w_895 : (Jvm.Cond.instanceMethod ({ cls := "MeshLinesModel", name := "invalidate", desc := "(II)Z" } : Jvm.MethodName)) ∈ evW := evWi (tj_4 _ (List.mem_of_getElem? (i := 175) rfl)) rfl
set_option maxRecDepth 20000 in
theorem w_896 : (Jvm.Cond.code ({ cls := "MeshLinesModel", name := "invalidate", desc := "(II)Z" } : Jvm.MethodName) prog_12_method_17_code (6 : Nat) (Option.some Jvm.ClassFile.FieldType.boolean)) ∈ evW := evWi (tj_4 _ (List.mem_of_getElem? (i := 176) rfl)) rfl
set_option maxRecDepth 20000 in
theorem w_897 : (Jvm.Cond.methodLink "MeshLinesModel" (196 : Nat) ({ cls := "MeshLinesModel", name := "data", desc := "(II)V" } : Jvm.MethodName)) ∈ evW := evWi (tj_4 _ (List.mem_of_getElem? (i := 177) rfl)) rfl
set_option maxRecDepth 20000 in
theorem w_899 : (Jvm.Cond.instanceMethod ({ cls := "MeshLinesModel", name := "data", desc := "(II)V" } : Jvm.MethodName)) ∈ evW := evWi (tj_4 _ (List.mem_of_getElem? (i := 179) rfl)) rfl
set_option maxRecDepth 20000 in
theorem w_900 : (Jvm.Cond.code ({ cls := "MeshLinesModel", name := "data", desc := "(II)V" } : Jvm.MethodName) prog_12_method_19_code (6 : Nat) (Option.none : Option Jvm.ClassFile.FieldType)) ∈ evW := evWi (tj_4 _ (List.mem_of_getElem? (i := 180) rfl)) rfl
set_option maxRecDepth 20000 in
theorem w_901 : (Jvm.Cond.methodLink "MeshLinesModel" (172 : Nat) ({ cls := "MeshLinesModel", name := "become", desc := "(III)V" } : Jvm.MethodName)) ∈ evW := evWi (tj_4 _ (List.mem_of_getElem? (i := 181) rfl)) rfl
set_option maxRecDepth 20000 in
theorem w_903 : (Jvm.Cond.instanceMethod ({ cls := "MeshLinesModel", name := "become", desc := "(III)V" } : Jvm.MethodName)) ∈ evW := evWi (tj_4 _ (List.mem_of_getElem? (i := 183) rfl)) rfl
set_option maxRecDepth 20000 in
theorem w_904 : (Jvm.Cond.code ({ cls := "MeshLinesModel", name := "become", desc := "(III)V" } : Jvm.MethodName) prog_12_method_16_code (4 : Nat) (Option.none : Option Jvm.ClassFile.FieldType)) ∈ evW := evWi (tj_4 _ (List.mem_of_getElem? (i := 184) rfl)) rfl
set_option maxRecDepth 20000 in
theorem w_905 : (Jvm.Cond.methodLink "MeshLinesModel" (161 : Nat) ({ cls := "MeshLinesModel", name := "finish", desc := "(II)V" } : Jvm.MethodName)) ∈ evW := evWi (tj_4 _ (List.mem_of_getElem? (i := 185) rfl)) rfl
set_option maxRecDepth 20000 in
theorem w_907 : (Jvm.Cond.instanceMethod ({ cls := "MeshLinesModel", name := "finish", desc := "(II)V" } : Jvm.MethodName)) ∈ evW := evWi (tj_4 _ (List.mem_of_getElem? (i := 187) rfl)) rfl
set_option maxRecDepth 20000 in
theorem w_908 : (Jvm.Cond.code ({ cls := "MeshLinesModel", name := "finish", desc := "(II)V" } : Jvm.MethodName) prog_12_method_15_code (5 : Nat) (Option.none : Option Jvm.ClassFile.FieldType)) ∈ evW := evWi (tj_4 _ (List.mem_of_getElem? (i := 188) rfl)) rfl
set_option maxRecDepth 20000 in
theorem w_909 : (Jvm.Cond.methodLink "MeshLinesModel" (199 : Nat) ({ cls := "MeshLinesModel", name := "acknowledged", desc := "(II)V" } : Jvm.MethodName)) ∈ evW := evWi (tj_4 _ (List.mem_of_getElem? (i := 189) rfl)) rfl
set_option maxRecDepth 20000 in
theorem w_911 : (Jvm.Cond.instanceMethod ({ cls := "MeshLinesModel", name := "acknowledged", desc := "(II)V" } : Jvm.MethodName)) ∈ evW := evWi (tj_4 _ (List.mem_of_getElem? (i := 191) rfl)) rfl
set_option maxRecDepth 20000 in
theorem w_912 : (Jvm.Cond.code ({ cls := "MeshLinesModel", name := "acknowledged", desc := "(II)V" } : Jvm.MethodName) prog_12_method_20_code (5 : Nat) (Option.none : Option Jvm.ClassFile.FieldType)) ∈ evW := evWi (tj_4 _ (List.mem_of_getElem? (i := 192) rfl)) rfl
set_option maxRecDepth 20000 in
theorem w_913 : (Jvm.Cond.methodLink "MeshLinesModel" (224 : Nat) ({ cls := "MeshLinesModel", name := "core", desc := "(I)V" } : Jvm.MethodName)) ∈ evW := evWi (tj_4 _ (List.mem_of_getElem? (i := 193) rfl)) rfl
set_option maxRecDepth 20000 in
theorem w_915 : (Jvm.Cond.instanceMethod ({ cls := "MeshLinesModel", name := "core", desc := "(I)V" } : Jvm.MethodName)) ∈ evW := evWi (tj_4 _ (List.mem_of_getElem? (i := 195) rfl)) rfl
set_option maxRecDepth 20000 in
theorem w_916 : (Jvm.Cond.code ({ cls := "MeshLinesModel", name := "core", desc := "(I)V" } : Jvm.MethodName) prog_12_method_30_code (8 : Nat) (Option.none : Option Jvm.ClassFile.FieldType)) ∈ evW := evWi (tj_4 _ (List.mem_of_getElem? (i := 196) rfl)) rfl
set_option maxRecDepth 20000 in
theorem w_917 : (Jvm.Cond.methodLink "MeshLinesModel" (212 : Nat) ({ cls := "MeshLinesModel", name := "evict", desc := "(II)V" } : Jvm.MethodName)) ∈ evW := evWi (tj_4 _ (List.mem_of_getElem? (i := 197) rfl)) rfl
set_option maxRecDepth 20000 in
theorem w_919 : (Jvm.Cond.instanceMethod ({ cls := "MeshLinesModel", name := "evict", desc := "(II)V" } : Jvm.MethodName)) ∈ evW := evWi (tj_4 _ (List.mem_of_getElem? (i := 199) rfl)) rfl
set_option maxRecDepth 20000 in
theorem w_920 : (Jvm.Cond.code ({ cls := "MeshLinesModel", name := "evict", desc := "(II)V" } : Jvm.MethodName) prog_12_method_29_code (7 : Nat) (Option.none : Option Jvm.ClassFile.FieldType)) ∈ evW := evWi (tj_4 _ (List.mem_of_getElem? (i := 200) rfl)) rfl
set_option maxRecDepth 20000 in
theorem w_921 : (Jvm.Cond.methodLink "MeshLinesModel" (208 : Nat) ({ cls := "MeshLinesModel", name := "isLeaving", desc := "(I)Z" } : Jvm.MethodName)) ∈ evW := evWi (tj_4 _ (List.mem_of_getElem? (i := 201) rfl)) rfl
set_option maxRecDepth 20000 in
theorem w_922 : (Jvm.Cond.static ({ cls := "MeshLinesModel", name := "isLeaving", desc := "(I)Z" } : Jvm.MethodName)) ∈ evW := evWi (tj_4 _ (List.mem_of_getElem? (i := 202) rfl)) rfl
set_option maxRecDepth 20000 in
theorem w_923 : (Jvm.Cond.code ({ cls := "MeshLinesModel", name := "isLeaving", desc := "(I)Z" } : Jvm.MethodName) prog_12_method_28_code (1 : Nat) (Option.some Jvm.ClassFile.FieldType.boolean)) ∈ evW := evWi (tj_4 _ (List.mem_of_getElem? (i := 203) rfl)) rfl
set_option maxRecDepth 20000 in
theorem w_924 : (Jvm.Cond.methodLink "MeshLinesLaw" (35 : Nat) ({ cls := "MeshLinesModel", name := "result", desc := "(II)I" } : Jvm.MethodName)) ∈ evW := evWi (tj_4 _ (List.mem_of_getElem? (i := 204) rfl)) rfl
set_option maxRecDepth 20000 in
theorem w_925 : (Jvm.Cond.instanceMethod ({ cls := "MeshLinesModel", name := "result", desc := "(II)I" } : Jvm.MethodName)) ∈ evW := evWi (tj_4 _ (List.mem_of_getElem? (i := 205) rfl)) rfl
set_option maxRecDepth 20000 in
theorem w_926 : (Jvm.Cond.selects "MeshLinesModel" ({ cls := "MeshLinesModel", name := "result", desc := "(II)I" } : Jvm.MethodName) ({ cls := "MeshLinesModel", name := "result", desc := "(II)I" } : Jvm.MethodName)) ∈ evW := evWi (tj_4 _ (List.mem_of_getElem? (i := 206) rfl)) rfl
set_option maxRecDepth 20000 in
theorem w_927 : (Jvm.Cond.code ({ cls := "MeshLinesModel", name := "result", desc := "(II)I" } : Jvm.MethodName) prog_12_method_34_code (3 : Nat) (Option.some Jvm.ClassFile.FieldType.int)) ∈ evW := evWi (tj_4 _ (List.mem_of_getElem? (i := 207) rfl)) rfl
set_option maxRecDepth 20000 in
theorem w_928 : (Jvm.Cond.methodLink "MeshLinesLaw" (39 : Nat) ({ cls := "MeshLinesModel", name := "done", desc := "(I)I" } : Jvm.MethodName)) ∈ evW := evWi (tj_4 _ (List.mem_of_getElem? (i := 208) rfl)) rfl
set_option maxRecDepth 20000 in
theorem w_929 : (Jvm.Cond.instanceMethod ({ cls := "MeshLinesModel", name := "done", desc := "(I)I" } : Jvm.MethodName)) ∈ evW := evWi (tj_4 _ (List.mem_of_getElem? (i := 209) rfl)) rfl
set_option maxRecDepth 20000 in
theorem w_930 : (Jvm.Cond.selects "MeshLinesModel" ({ cls := "MeshLinesModel", name := "done", desc := "(I)I" } : Jvm.MethodName) ({ cls := "MeshLinesModel", name := "done", desc := "(I)I" } : Jvm.MethodName)) ∈ evW := evWi (tj_4 _ (List.mem_of_getElem? (i := 210) rfl)) rfl
set_option maxRecDepth 20000 in
theorem w_931 : (Jvm.Cond.code ({ cls := "MeshLinesModel", name := "done", desc := "(I)I" } : Jvm.MethodName) prog_12_method_35_code (2 : Nat) (Option.some Jvm.ClassFile.FieldType.int)) ∈ evW := evWi (tj_4 _ (List.mem_of_getElem? (i := 211) rfl)) rfl
set_option maxRecDepth 20000 in
theorem w_932 : (Jvm.Cond.methodLink "MeshLinesLaw" (44 : Nat) ({ cls := "MeshLinesModel", name := "cache", desc := "(III)I" } : Jvm.MethodName)) ∈ evW := evWi (tj_4 _ (List.mem_of_getElem? (i := 212) rfl)) rfl
set_option maxRecDepth 20000 in
theorem w_933 : (Jvm.Cond.instanceMethod ({ cls := "MeshLinesModel", name := "cache", desc := "(III)I" } : Jvm.MethodName)) ∈ evW := evWi (tj_4 _ (List.mem_of_getElem? (i := 213) rfl)) rfl
set_option maxRecDepth 20000 in
theorem w_934 : (Jvm.Cond.selects "MeshLinesModel" ({ cls := "MeshLinesModel", name := "cache", desc := "(III)I" } : Jvm.MethodName) ({ cls := "MeshLinesModel", name := "cache", desc := "(III)I" } : Jvm.MethodName)) ∈ evW := evWi (tj_4 _ (List.mem_of_getElem? (i := 214) rfl)) rfl
set_option maxRecDepth 20000 in
theorem w_935 : (Jvm.Cond.code ({ cls := "MeshLinesModel", name := "cache", desc := "(III)I" } : Jvm.MethodName) prog_12_method_36_code (5 : Nat) (Option.some Jvm.ClassFile.FieldType.int)) ∈ evW := evWi (tj_4 _ (List.mem_of_getElem? (i := 215) rfl)) rfl
set_option maxRecDepth 20000 in
theorem w_936 : (Jvm.Cond.methodLink "MeshLinesLaw" (48 : Nat) ({ cls := "MeshLinesModel", name := "home", desc := "(II)I" } : Jvm.MethodName)) ∈ evW := evWi (tj_4 _ (List.mem_of_getElem? (i := 216) rfl)) rfl
set_option maxRecDepth 20000 in
theorem w_937 : (Jvm.Cond.instanceMethod ({ cls := "MeshLinesModel", name := "home", desc := "(II)I" } : Jvm.MethodName)) ∈ evW := evWi (tj_4 _ (List.mem_of_getElem? (i := 217) rfl)) rfl
set_option maxRecDepth 20000 in
theorem w_938 : (Jvm.Cond.selects "MeshLinesModel" ({ cls := "MeshLinesModel", name := "home", desc := "(II)I" } : Jvm.MethodName) ({ cls := "MeshLinesModel", name := "home", desc := "(II)I" } : Jvm.MethodName)) ∈ evW := evWi (tj_4 _ (List.mem_of_getElem? (i := 218) rfl)) rfl
set_option maxRecDepth 20000 in
theorem w_939 : (Jvm.Cond.code ({ cls := "MeshLinesModel", name := "home", desc := "(II)I" } : Jvm.MethodName) prog_12_method_37_code (3 : Nat) (Option.some Jvm.ClassFile.FieldType.int)) ∈ evW := evWi (tj_4 _ (List.mem_of_getElem? (i := 219) rfl)) rfl
set_option maxRecDepth 20000 in
theorem w_940 : (Jvm.Cond.methodLink "MeshLinesLaw" (52 : Nat) ({ cls := "MeshLinesModel", name := "buffer", desc := "(III)I" } : Jvm.MethodName)) ∈ evW := evWi (tj_4 _ (List.mem_of_getElem? (i := 220) rfl)) rfl
set_option maxRecDepth 20000 in
theorem w_941 : (Jvm.Cond.instanceMethod ({ cls := "MeshLinesModel", name := "buffer", desc := "(III)I" } : Jvm.MethodName)) ∈ evW := evWi (tj_4 _ (List.mem_of_getElem? (i := 221) rfl)) rfl
set_option maxRecDepth 20000 in
theorem w_942 : (Jvm.Cond.selects "MeshLinesModel" ({ cls := "MeshLinesModel", name := "buffer", desc := "(III)I" } : Jvm.MethodName) ({ cls := "MeshLinesModel", name := "buffer", desc := "(III)I" } : Jvm.MethodName)) ∈ evW := evWi (tj_4 _ (List.mem_of_getElem? (i := 222) rfl)) rfl
set_option maxRecDepth 20000 in
theorem w_943 : (Jvm.Cond.code ({ cls := "MeshLinesModel", name := "buffer", desc := "(III)I" } : Jvm.MethodName) prog_12_method_38_code (4 : Nat) (Option.some Jvm.ClassFile.FieldType.int)) ∈ evW := evWi (tj_4 _ (List.mem_of_getElem? (i := 223) rfl)) rfl
set_option maxRecDepth 20000 in
theorem w_944 : (Jvm.Cond.methodLink "MeshLinesLaw" (56 : Nat) ({ cls := "MeshLinesModel", name := "held", desc := "(III)I" } : Jvm.MethodName)) ∈ evW := evWi (tj_4 _ (List.mem_of_getElem? (i := 224) rfl)) rfl
set_option maxRecDepth 20000 in
theorem w_945 : (Jvm.Cond.instanceMethod ({ cls := "MeshLinesModel", name := "held", desc := "(III)I" } : Jvm.MethodName)) ∈ evW := evWi (tj_4 _ (List.mem_of_getElem? (i := 225) rfl)) rfl
set_option maxRecDepth 20000 in
theorem w_946 : (Jvm.Cond.selects "MeshLinesModel" ({ cls := "MeshLinesModel", name := "held", desc := "(III)I" } : Jvm.MethodName) ({ cls := "MeshLinesModel", name := "held", desc := "(III)I" } : Jvm.MethodName)) ∈ evW := evWi (tj_4 _ (List.mem_of_getElem? (i := 226) rfl)) rfl
set_option maxRecDepth 20000 in
theorem w_947 : (Jvm.Cond.code ({ cls := "MeshLinesModel", name := "held", desc := "(III)I" } : Jvm.MethodName) prog_12_method_39_code (4 : Nat) (Option.some Jvm.ClassFile.FieldType.int)) ∈ evW := evWi (tj_4 _ (List.mem_of_getElem? (i := 227) rfl)) rfl
set_option maxRecDepth 20000 in
theorem w_948 : (Jvm.Cond.methodLink "MeshLinesLaw" (60 : Nat) ({ cls := "MeshLinesModel", name := "count", desc := "(I)I" } : Jvm.MethodName)) ∈ evW := evWi (tj_4 _ (List.mem_of_getElem? (i := 228) rfl)) rfl
set_option maxRecDepth 20000 in
theorem w_949 : (Jvm.Cond.instanceMethod ({ cls := "MeshLinesModel", name := "count", desc := "(I)I" } : Jvm.MethodName)) ∈ evW := evWi (tj_4 _ (List.mem_of_getElem? (i := 229) rfl)) rfl
set_option maxRecDepth 20000 in
theorem w_950 : (Jvm.Cond.selects "MeshLinesModel" ({ cls := "MeshLinesModel", name := "count", desc := "(I)I" } : Jvm.MethodName) ({ cls := "MeshLinesModel", name := "count", desc := "(I)I" } : Jvm.MethodName)) ∈ evW := evWi (tj_4 _ (List.mem_of_getElem? (i := 230) rfl)) rfl
set_option maxRecDepth 20000 in
theorem w_951 : (Jvm.Cond.code ({ cls := "MeshLinesModel", name := "count", desc := "(I)I" } : Jvm.MethodName) prog_12_method_40_code (2 : Nat) (Option.some Jvm.ClassFile.FieldType.int)) ∈ evW := evWi (tj_4 _ (List.mem_of_getElem? (i := 231) rfl)) rfl
set_option maxRecDepth 20000 in
theorem w_954 : (Jvm.Cond.selects "[Ljava/lang/Object;" ({ cls := "java/lang/Object", name := "getClass", desc := "()Ljava/lang/Class;" } : Jvm.MethodName) ({ cls := "java/lang/Object", name := "getClass", desc := "()Ljava/lang/Class;" } : Jvm.MethodName)) ∈ evW := evWi (tj_4 _ (List.mem_of_getElem? (i := 234) rfl)) rfl
end
section
abbrev M_Lw_cell : ev_M := (⟨"MeshLinesLaw", "cell", "([II)I"⟩, method_2_code, 2, (Option.some Jvm.ClassFile.FieldType.int))
abbrev M_Ma_min : ev_M := (⟨"java/lang/Math", "min", "(II)I"⟩, prog_17_method_69_code, 2, (Option.some Jvm.ClassFile.FieldType.int))
abbrev M_Ma_max : ev_M := (⟨"java/lang/Math", "max", "(II)I"⟩, prog_17_method_65_code, 2, (Option.some Jvm.ClassFile.FieldType.int))
abbrev M_ML_nearest : ev_M := (⟨"MeshLines", "nearest", "(III)I"⟩, prog_1_method_12_code, 3, (Option.some Jvm.ClassFile.FieldType.int))
abbrev M_Ac_init : ev_M := (⟨"java/util/AbstractCollection", "<init>", "()V"⟩, prog_19_method_1_code, 1, (Option.none : Option Jvm.ClassFile.FieldType))
abbrev M_Al_init : ev_M := (⟨"java/util/AbstractList", "<init>", "()V"⟩, prog_20_method_1_code, 1, (Option.none : Option Jvm.ClassFile.FieldType))
abbrev M_AL_init : ev_M := (⟨"java/util/ArrayList", "<init>", "()V"⟩, prog_21_method_2_code, 1, (Option.none : Option Jvm.ClassFile.FieldType))
abbrev M_FB_init : ev_M := (⟨"MeshLines$FlitBuffer", "<init>", "(I)V"⟩, prog_5_method_1_code, 2, (Option.none : Option Jvm.ClassFile.FieldType))
abbrev M_La_init : ev_M := (⟨"MeshLines$Lane", "<init>", "(II)V"⟩, prog_7_method_1_code, 4, (Option.none : Option Jvm.ClassFile.FieldType))
abbrev M_Me_init : ev_M := (⟨"MeshLines$Mesh", "<init>", "(II)V"⟩, prog_8_method_1_code, 4, (Option.none : Option Jvm.ClassFile.FieldType))
abbrev M_ML_homeOf : ev_M := (⟨"MeshLines", "homeOf", "(I)I"⟩, prog_1_method_13_code, 1, (Option.some Jvm.ClassFile.FieldType.int))
abbrev M_Ho_init : ev_M := (⟨"MeshLines$Home", "<init>", "(ILMeshLines$Mesh;)V"⟩, prog_6_method_1_code, 3, (Option.none : Option Jvm.ClassFile.FieldType))
abbrev M_Ca_init : ev_M := (⟨"MeshLines$Cache", "<init>", "(ILMeshLines$Mesh;)V"⟩, prog_2_method_1_code, 3, (Option.none : Option Jvm.ClassFile.FieldType))
abbrev M_Co_init : ev_M := (⟨"MeshLines$Core", "<init>", "(LMeshLines$Cache;)V"⟩, prog_3_method_1_code, 2, (Option.none : Option Jvm.ClassFile.FieldType))
abbrev M_No_init : ev_M := (⟨"MeshLines$Node", "<init>", "(ILMeshLines$Mesh;[LMeshLines$Home;)V"⟩, prog_9_method_1_code, 4, (Option.none : Option Jvm.ClassFile.FieldType))
abbrev M_ML_init : ev_M := (⟨"MeshLines", "<init>", "(II)V"⟩, prog_1_method_1_code, 4, (Option.none : Option Jvm.ClassFile.FieldType))
abbrev M_Mo_init : ev_M := (⟨"MeshLinesModel", "<init>", "(II)V"⟩, prog_12_method_1_code, 4, (Option.none : Option Jvm.ClassFile.FieldType))
abbrev M_ML_isBelow : ev_M := (⟨"MeshLines", "isBelow", "(II)Z"⟩, prog_1_method_11_code, 2, (Option.some Jvm.ClassFile.FieldType.boolean))
abbrev M_Co_append : ev_M := (⟨"MeshLines$Core", "append", "(IIII)I"⟩, prog_3_method_2_code, 5, (Option.some Jvm.ClassFile.FieldType.int))
abbrev M_ML_operation : ev_M := (⟨"MeshLines", "operation", "(IIIII)I"⟩, prog_1_method_2_code, 6, (Option.some Jvm.ClassFile.FieldType.int))
abbrev M_Mo_isNode : ev_M := (⟨"MeshLinesModel", "isNode", "(I)Z"⟩, prog_12_method_2_code, 1, (Option.some Jvm.ClassFile.FieldType.boolean))
abbrev M_Mo_isLine : ev_M := (⟨"MeshLinesModel", "isLine", "(I)Z"⟩, prog_12_method_3_code, 1, (Option.some Jvm.ClassFile.FieldType.boolean))
abbrev M_Mo_operation : ev_M := (⟨"MeshLinesModel", "operation", "(IIIII)I"⟩, prog_12_method_32_code, 7, (Option.some Jvm.ClassFile.FieldType.int))
abbrev M_AL_isEmpty : ev_M := (⟨"java/util/ArrayList", "isEmpty", "()Z"⟩, prog_21_method_9_code, 1, (Option.some Jvm.ClassFile.FieldType.boolean))
abbrev M_FB_hasRoom : ev_M := (⟨"MeshLines$FlitBuffer", "hasRoom", "()Z"⟩, prog_5_method_2_code, 1, (Option.some Jvm.ClassFile.FieldType.boolean))
abbrev M_Pr_checkIndex : ev_M := (⟨"jdk/internal/util/Preconditions", "checkIndex", "(IILjava/util/function/BiFunction;)I"⟩, prog_29_method_11_code, 3, (Option.some Jvm.ClassFile.FieldType.int))
abbrev M_Os_checkIndex : ev_M := (⟨"java/util/Objects", "checkIndex", "(II)I"⟩, prog_25_method_17_code, 2, (Option.some Jvm.ClassFile.FieldType.int))
abbrev M_AL_elementData : ev_M := (⟨"java/util/ArrayList", "elementData", "(I)Ljava/lang/Object;"⟩, prog_21_method_18_code, 2, (Option.some (Jvm.ClassFile.FieldType.object "java/lang/Object")))
abbrev M_AL_get : ev_M := (⟨"java/util/ArrayList", "get", "(I)Ljava/lang/Object;"⟩, prog_21_method_20_code, 2, (Option.some (Jvm.ClassFile.FieldType.object "java/lang/Object")))
abbrev M_Fl_init : ev_M := (⟨"MeshLines$Flit", "<init>", "(LMeshLines$Packet;I)V"⟩, prog_4_method_1_code, 3, (Option.none : Option Jvm.ClassFile.FieldType))
abbrev M_FB_put : ev_M := (⟨"MeshLines$FlitBuffer", "put", "(LMeshLines$Flit;I)V"⟩, prog_5_method_4_code, 3, (Option.none : Option Jvm.ClassFile.FieldType))
abbrev M_AL_fastRemove : ev_M := (⟨"java/util/ArrayList", "fastRemove", "([Ljava/lang/Object;I)V"⟩, prog_21_method_39_code, 4, (Option.none : Option Jvm.ClassFile.FieldType))
abbrev M_AL_remove : ev_M := (⟨"java/util/ArrayList", "remove", "(I)Ljava/lang/Object;"⟩, prog_21_method_29_code, 4, (Option.some (Jvm.ClassFile.FieldType.object "java/lang/Object")))
abbrev M_La_enterFlit : ev_M := (⟨"MeshLines$Lane", "enterFlit", "(I)V"⟩, prog_7_method_2_code, 3, (Option.none : Option Jvm.ClassFile.FieldType))
abbrev M_Me_enterFlits : ev_M := (⟨"MeshLines$Mesh", "enterFlits", "(I)V"⟩, prog_8_method_4_code, 3, (Option.none : Option Jvm.ClassFile.FieldType))
abbrev M_Me_laneOf : ev_M := (⟨"MeshLines$Mesh", "laneOf", "(II)LMeshLines$Lane;"⟩, prog_8_method_2_code, 3, (Option.some (Jvm.ClassFile.FieldType.object "MeshLines$Lane")))
abbrev M_FB_front : ev_M := (⟨"MeshLines$FlitBuffer", "front", "()LMeshLines$Flit;"⟩, prog_5_method_3_code, 1, (Option.some (Jvm.ClassFile.FieldType.object "MeshLines$Flit")))
abbrev M_La_wayTo : ev_M := (⟨"MeshLines$Lane", "wayTo", "(I)I"⟩, prog_7_method_4_code, 4, (Option.some Jvm.ClassFile.FieldType.int))
abbrev M_La_portFor : ev_M := (⟨"MeshLines$Lane", "portFor", "(I)I"⟩, prog_7_method_3_code, 5, (Option.some Jvm.ClassFile.FieldType.int))
abbrev M_As_hugeLength : ev_M := (⟨"jdk/internal/util/ArraysSupport", "hugeLength", "(II)I"⟩, prog_28_method_28_code, 3, (Option.some Jvm.ClassFile.FieldType.int))
abbrev M_As_newLength : ev_M := (⟨"jdk/internal/util/ArraysSupport", "newLength", "(III)I"⟩, prog_28_method_27_code, 4, (Option.some Jvm.ClassFile.FieldType.int))
abbrev M_Ar_copyOf3 : ev_M := (⟨"java/util/Arrays", "copyOf", "([Ljava/lang/Object;ILjava/lang/Class;)[Ljava/lang/Object;"⟩, prog_22_method_120_code, 4, (Option.some (Jvm.ClassFile.FieldType.array (Jvm.ClassFile.FieldType.object "java/lang/Object"))))
abbrev M_Ar_copyOf2 : ev_M := (⟨"java/util/Arrays", "copyOf", "([Ljava/lang/Object;I)[Ljava/lang/Object;"⟩, prog_22_method_119_code, 2, (Option.some (Jvm.ClassFile.FieldType.array (Jvm.ClassFile.FieldType.object "java/lang/Object"))))
abbrev M_AL_grow1 : ev_M := (⟨"java/util/ArrayList", "grow", "(I)[Ljava/lang/Object;"⟩, prog_21_method_6_code, 4, (Option.some (Jvm.ClassFile.FieldType.array (Jvm.ClassFile.FieldType.object "java/lang/Object"))))
abbrev M_AL_grow0 : ev_M := (⟨"java/util/ArrayList", "grow", "()[Ljava/lang/Object;"⟩, prog_21_method_7_code, 1, (Option.some (Jvm.ClassFile.FieldType.array (Jvm.ClassFile.FieldType.object "java/lang/Object"))))
abbrev M_AL_add3 : ev_M := (⟨"java/util/ArrayList", "add", "(Ljava/lang/Object;[Ljava/lang/Object;I)V"⟩, prog_21_method_24_code, 4, (Option.none : Option Jvm.ClassFile.FieldType))
abbrev M_AL_add1 : ev_M := (⟨"java/util/ArrayList", "add", "(Ljava/lang/Object;)Z"⟩, prog_21_method_25_code, 2, (Option.some Jvm.ClassFile.FieldType.boolean))
abbrev M_Me_leaveMesh : ev_M := (⟨"MeshLines$Mesh", "leaveMesh", "(LMeshLines$Flit;LMeshLines$Lane;)V"⟩, prog_8_method_8_code, 3, (Option.none : Option Jvm.ClassFile.FieldType))
abbrev M_Me_bufferBeyond : ev_M := (⟨"MeshLines$Mesh", "bufferBeyond", "(III)LMeshLines$FlitBuffer;"⟩, prog_8_method_9_code, 4, (Option.some (Jvm.ClassFile.FieldType.object "MeshLines$FlitBuffer")))
abbrev M_FB_dropFront : ev_M := (⟨"MeshLines$FlitBuffer", "dropFront", "()V"⟩, prog_5_method_5_code, 2, (Option.none : Option Jvm.ClassFile.FieldType))
abbrev M_La_dropFront : ev_M := (⟨"MeshLines$Lane", "dropFront", "(II)V"⟩, prog_7_method_5_code, 4, (Option.none : Option Jvm.ClassFile.FieldType))
abbrev M_Me_moveFlitOf : ev_M := (⟨"MeshLines$Mesh", "moveFlitOf", "(IIII)Z"⟩, prog_8_method_7_code, 9, (Option.some Jvm.ClassFile.FieldType.boolean))
abbrev M_Me_moveOneFlit : ev_M := (⟨"MeshLines$Mesh", "moveOneFlit", "(III)V"⟩, prog_8_method_6_code, 6, (Option.none : Option Jvm.ClassFile.FieldType))
abbrev M_Me_moveFlits : ev_M := (⟨"MeshLines$Mesh", "moveFlits", "(I)V"⟩, prog_8_method_5_code, 4, (Option.none : Option Jvm.ClassFile.FieldType))
abbrev M_AL_size : ev_M := (⟨"java/util/ArrayList", "size", "()I"⟩, prog_21_method_8_code, 1, (Option.some Jvm.ClassFile.FieldType.int))
abbrev M_Pa_isForHome : ev_M := (⟨"MeshLines$Packet", "isForHome", "()Z"⟩, prog_10_method_3_code, 1, (Option.some Jvm.ClassFile.FieldType.boolean))
abbrev M_Ho_stalls : ev_M := (⟨"MeshLines$Home", "stalls", "(LMeshLines$Packet;)Z"⟩, prog_6_method_2_code, 2, (Option.some Jvm.ClassFile.FieldType.boolean))
abbrev M_Ca_stalls : ev_M := (⟨"MeshLines$Cache", "stalls", "(LMeshLines$Packet;)Z"⟩, prog_2_method_2_code, 3, (Option.some Jvm.ClassFile.FieldType.boolean))
abbrev M_No_stalls : ev_M := (⟨"MeshLines$Node", "stalls", "(LMeshLines$Packet;)Z"⟩, prog_9_method_4_code, 2, (Option.some Jvm.ClassFile.FieldType.boolean))
abbrev M_No_firstToTake : ev_M := (⟨"MeshLines$Node", "firstToTake", "(Ljava/util/ArrayList;)I"⟩, prog_9_method_3_code, 7, (Option.some Jvm.ClassFile.FieldType.int))
abbrev M_Pa_init : ev_M := (⟨"MeshLines$Packet", "<init>", "(IIIIIII)V"⟩, prog_10_method_1_code, 9, (Option.none : Option Jvm.ClassFile.FieldType))
abbrev M_Pa_channel : ev_M := (⟨"MeshLines$Packet", "channel", "()I"⟩, prog_10_method_2_code, 1, (Option.some Jvm.ClassFile.FieldType.int))
abbrev M_Me_send : ev_M := (⟨"MeshLines$Mesh", "send", "(IIIIIII)V"⟩, prog_8_method_3_code, 9, (Option.none : Option Jvm.ClassFile.FieldType))
abbrev M_Ho_takeGets : ev_M := (⟨"MeshLines$Home", "takeGets", "(I)V"⟩, prog_6_method_4_code, 2, (Option.none : Option Jvm.ClassFile.FieldType))
abbrev M_In_bitCount : ev_M := (⟨"java/lang/Integer", "bitCount", "(I)I"⟩, prog_15_method_49_code, 1, (Option.some Jvm.ClassFile.FieldType.int))
abbrev M_Ho_takeGetm : ev_M := (⟨"MeshLines$Home", "takeGetm", "(I)V"⟩, prog_6_method_5_code, 4, (Option.none : Option Jvm.ClassFile.FieldType))
abbrev M_Ho_dropSharer : ev_M := (⟨"MeshLines$Home", "dropSharer", "(I)V"⟩, prog_6_method_8_code, 2, (Option.none : Option Jvm.ClassFile.FieldType))
abbrev M_Ho_takePuts : ev_M := (⟨"MeshLines$Home", "takePuts", "(I)V"⟩, prog_6_method_6_code, 2, (Option.none : Option Jvm.ClassFile.FieldType))
abbrev M_Ho_takePutm : ev_M := (⟨"MeshLines$Home", "takePutm", "(II)V"⟩, prog_6_method_7_code, 3, (Option.none : Option Jvm.ClassFile.FieldType))
abbrev M_Ho_take : ev_M := (⟨"MeshLines$Home", "take", "(LMeshLines$Packet;)V"⟩, prog_6_method_3_code, 2, (Option.none : Option Jvm.ClassFile.FieldType))
abbrev M_Ca_takeData : ev_M := (⟨"MeshLines$Cache", "takeData", "(LMeshLines$Packet;)Z"⟩, prog_2_method_4_code, 4, (Option.some Jvm.ClassFile.FieldType.boolean))
abbrev M_Ca_takeAck : ev_M := (⟨"MeshLines$Cache", "takeAck", "(I)Z"⟩, prog_2_method_5_code, 3, (Option.some Jvm.ClassFile.FieldType.boolean))
abbrev M_Ca_become : ev_M := (⟨"MeshLines$Cache", "become", "(II)V"⟩, prog_2_method_7_code, 3, (Option.none : Option Jvm.ClassFile.FieldType))
abbrev M_Ca_takeInv : ev_M := (⟨"MeshLines$Cache", "takeInv", "(LMeshLines$Packet;)V"⟩, prog_2_method_6_code, 3, (Option.none : Option Jvm.ClassFile.FieldType))
abbrev M_Ca_giveData : ev_M := (⟨"MeshLines$Cache", "giveData", "(III)V"⟩, prog_2_method_8_code, 4, (Option.none : Option Jvm.ClassFile.FieldType))
abbrev M_Ca_take : ev_M := (⟨"MeshLines$Cache", "take", "(LMeshLines$Packet;)Z"⟩, prog_2_method_3_code, 3, (Option.some Jvm.ClassFile.FieldType.boolean))
abbrev M_Co_finishPresent : ev_M := (⟨"MeshLines$Core", "finishPresent", "(I)V"⟩, prog_3_method_5_code, 4, (Option.none : Option Jvm.ClassFile.FieldType))
abbrev M_No_take : ev_M := (⟨"MeshLines$Node", "take", "(LMeshLines$Packet;I)V"⟩, prog_9_method_5_code, 3, (Option.none : Option Jvm.ClassFile.FieldType))
abbrev M_No_takePackets : ev_M := (⟨"MeshLines$Node", "takePackets", "(I)V"⟩, prog_9_method_2_code, 5, (Option.none : Option Jvm.ClassFile.FieldType))
abbrev M_Ca_ask : ev_M := (⟨"MeshLines$Cache", "ask", "(III)V"⟩, prog_2_method_10_code, 4, (Option.none : Option Jvm.ClassFile.FieldType))
abbrev M_Ca_hasRoomFor : ev_M := (⟨"MeshLines$Cache", "hasRoomFor", "(I)Z"⟩, prog_2_method_9_code, 4, (Option.some Jvm.ClassFile.FieldType.boolean))
abbrev M_Ca_makeRoomFor : ev_M := (⟨"MeshLines$Cache", "makeRoomFor", "(I)V"⟩, prog_2_method_11_code, 5, (Option.none : Option Jvm.ClassFile.FieldType))
abbrev M_Co_fetch : ev_M := (⟨"MeshLines$Core", "fetch", "(IZ)V"⟩, prog_3_method_4_code, 3, (Option.none : Option Jvm.ClassFile.FieldType))
abbrev M_Co_act : ev_M := (⟨"MeshLines$Core", "act", "(I)V"⟩, prog_3_method_3_code, 5, (Option.none : Option Jvm.ClassFile.FieldType))
abbrev M_ML_run : ev_M := (⟨"MeshLines", "run", "(I)I"⟩, prog_1_method_3_code, 4, (Option.some Jvm.ClassFile.FieldType.int))
abbrev M_Mo_append : ev_M := (⟨"MeshLinesModel", "append", "(III)V"⟩, prog_12_method_9_code, 5, (Option.none : Option Jvm.ClassFile.FieldType))
abbrev M_Mo_sizeOf : ev_M := (⟨"MeshLinesModel", "sizeOf", "(I)I"⟩, prog_12_method_5_code, 2, (Option.some Jvm.ClassFile.FieldType.int))
abbrev M_Mo_inject : ev_M := (⟨"MeshLinesModel", "inject", "(II)V"⟩, prog_12_method_11_code, 7, (Option.none : Option Jvm.ClassFile.FieldType))
abbrev M_Mo_way : ev_M := (⟨"MeshLinesModel", "way", "(II)I"⟩, prog_12_method_7_code, 4, (Option.some Jvm.ClassFile.FieldType.int))
abbrev M_Mo_served : ev_M := (⟨"MeshLinesModel", "served", "(III)I"⟩, prog_12_method_12_code, 9, (Option.some Jvm.ClassFile.FieldType.int))
abbrev M_Mo_neighbour : ev_M := (⟨"MeshLinesModel", "neighbour", "(II)I"⟩, prog_12_method_8_code, 2, (Option.some Jvm.ClassFile.FieldType.int))
abbrev M_Mo_removeFront : ev_M := (⟨"MeshLinesModel", "removeFront", "(I)V"⟩, prog_12_method_10_code, 3, (Option.none : Option Jvm.ClassFile.FieldType))
abbrev M_Mo_moves : ev_M := (⟨"MeshLinesModel", "moves", "(III)Z"⟩, prog_12_method_13_code, 14, (Option.some Jvm.ClassFile.FieldType.boolean))
abbrev M_Mo_isBehind : ev_M := (⟨"MeshLinesModel", "isBehind", "(II)Z"⟩, prog_12_method_26_code, 5, (Option.some Jvm.ClassFile.FieldType.boolean))
abbrev M_Mo_channelOf : ev_M := (⟨"MeshLinesModel", "channelOf", "(I)I"⟩, prog_12_method_4_code, 1, (Option.some Jvm.ClassFile.FieldType.int))
abbrev M_Mo_send : ev_M := (⟨"MeshLinesModel", "send", "(IIIIIII)V"⟩, prog_12_method_6_code, 10, (Option.none : Option Jvm.ClassFile.FieldType))
abbrev M_Mo_gets : ev_M := (⟨"MeshLinesModel", "gets", "(III)Z"⟩, prog_12_method_22_code, 4, (Option.some Jvm.ClassFile.FieldType.boolean))
abbrev M_Mo_getm : ev_M := (⟨"MeshLinesModel", "getm", "(III)Z"⟩, prog_12_method_23_code, 7, (Option.some Jvm.ClassFile.FieldType.boolean))
abbrev M_Mo_gone : ev_M := (⟨"MeshLinesModel", "gone", "(II)V"⟩, prog_12_method_21_code, 3, (Option.none : Option Jvm.ClassFile.FieldType))
abbrev M_Mo_putm : ev_M := (⟨"MeshLinesModel", "putm", "(III)V"⟩, prog_12_method_24_code, 4, (Option.none : Option Jvm.ClassFile.FieldType))
abbrev M_Mo_homeOf : ev_M := (⟨"MeshLinesModel", "homeOf", "(I)I"⟩, prog_12_method_14_code, 1, (Option.some Jvm.ClassFile.FieldType.int))
abbrev M_Mo_forward : ev_M := (⟨"MeshLinesModel", "forward", "(IIZ)Z"⟩, prog_12_method_18_code, 7, (Option.some Jvm.ClassFile.FieldType.boolean))
abbrev M_Mo_invalidate : ev_M := (⟨"MeshLinesModel", "invalidate", "(II)Z"⟩, prog_12_method_17_code, 6, (Option.some Jvm.ClassFile.FieldType.boolean))
abbrev M_Mo_finish : ev_M := (⟨"MeshLinesModel", "finish", "(II)V"⟩, prog_12_method_15_code, 5, (Option.none : Option Jvm.ClassFile.FieldType))
abbrev M_Mo_become : ev_M := (⟨"MeshLinesModel", "become", "(III)V"⟩, prog_12_method_16_code, 4, (Option.none : Option Jvm.ClassFile.FieldType))
abbrev M_Mo_data : ev_M := (⟨"MeshLinesModel", "data", "(II)V"⟩, prog_12_method_19_code, 6, (Option.none : Option Jvm.ClassFile.FieldType))
abbrev M_Mo_acknowledged : ev_M := (⟨"MeshLinesModel", "acknowledged", "(II)V"⟩, prog_12_method_20_code, 5, (Option.none : Option Jvm.ClassFile.FieldType))
abbrev M_Mo_takes : ev_M := (⟨"MeshLinesModel", "takes", "(II)Z"⟩, prog_12_method_25_code, 5, (Option.some Jvm.ClassFile.FieldType.boolean))
abbrev M_Mo_takeFirst : ev_M := (⟨"MeshLinesModel", "takeFirst", "(II)V"⟩, prog_12_method_27_code, 6, (Option.none : Option Jvm.ClassFile.FieldType))
abbrev M_Mo_isLeaving : ev_M := (⟨"MeshLinesModel", "isLeaving", "(I)Z"⟩, prog_12_method_28_code, 1, (Option.some Jvm.ClassFile.FieldType.boolean))
abbrev M_Mo_evict : ev_M := (⟨"MeshLinesModel", "evict", "(II)V"⟩, prog_12_method_29_code, 7, (Option.none : Option Jvm.ClassFile.FieldType))
abbrev M_Mo_core : ev_M := (⟨"MeshLinesModel", "core", "(I)V"⟩, prog_12_method_30_code, 8, (Option.none : Option Jvm.ClassFile.FieldType))
abbrev M_Mo_oneCycle : ev_M := (⟨"MeshLinesModel", "oneCycle", "()V"⟩, prog_12_method_31_code, 5, (Option.none : Option Jvm.ClassFile.FieldType))
abbrev M_Mo_run : ev_M := (⟨"MeshLinesModel", "run", "(I)I"⟩, prog_12_method_33_code, 3, (Option.some Jvm.ClassFile.FieldType.int))
abbrev M_ML_result : ev_M := (⟨"MeshLines", "result", "(II)I"⟩, prog_1_method_4_code, 4, (Option.some Jvm.ClassFile.FieldType.int))
abbrev M_Mo_result : ev_M := (⟨"MeshLinesModel", "result", "(II)I"⟩, prog_12_method_34_code, 3, (Option.some Jvm.ClassFile.FieldType.int))
abbrev M_ML_done : ev_M := (⟨"MeshLines", "done", "(I)I"⟩, prog_1_method_5_code, 2, (Option.some Jvm.ClassFile.FieldType.int))
abbrev M_Mo_done : ev_M := (⟨"MeshLinesModel", "done", "(I)I"⟩, prog_12_method_35_code, 2, (Option.some Jvm.ClassFile.FieldType.int))
abbrev M_ML_cache : ev_M := (⟨"MeshLines", "cache", "(III)I"⟩, prog_1_method_6_code, 5, (Option.some Jvm.ClassFile.FieldType.int))
abbrev M_Mo_cache : ev_M := (⟨"MeshLinesModel", "cache", "(III)I"⟩, prog_12_method_36_code, 5, (Option.some Jvm.ClassFile.FieldType.int))
abbrev M_ML_home : ev_M := (⟨"MeshLines", "home", "(II)I"⟩, prog_1_method_7_code, 4, (Option.some Jvm.ClassFile.FieldType.int))
abbrev M_Mo_home : ev_M := (⟨"MeshLinesModel", "home", "(II)I"⟩, prog_12_method_37_code, 3, (Option.some Jvm.ClassFile.FieldType.int))
abbrev M_ML_buffer : ev_M := (⟨"MeshLines", "buffer", "(III)I"⟩, prog_1_method_8_code, 5, (Option.some Jvm.ClassFile.FieldType.int))
abbrev M_Mo_buffer : ev_M := (⟨"MeshLinesModel", "buffer", "(III)I"⟩, prog_12_method_38_code, 4, (Option.some Jvm.ClassFile.FieldType.int))
abbrev M_ML_held : ev_M := (⟨"MeshLines", "held", "(III)I"⟩, prog_1_method_9_code, 5, (Option.some Jvm.ClassFile.FieldType.int))
abbrev M_Mo_held : ev_M := (⟨"MeshLinesModel", "held", "(III)I"⟩, prog_12_method_39_code, 4, (Option.some Jvm.ClassFile.FieldType.int))
abbrev M_ML_count : ev_M := (⟨"MeshLines", "count", "(I)I"⟩, prog_1_method_10_code, 2, (Option.some Jvm.ClassFile.FieldType.int))
abbrev M_Mo_count : ev_M := (⟨"MeshLinesModel", "count", "(I)I"⟩, prog_12_method_40_code, 2, (Option.some Jvm.ClassFile.FieldType.int))
abbrev M_Lw_law : ev_M := (⟨"MeshLinesLaw", "law", "([I)Z"⟩, code, 4, (Option.some Jvm.ClassFile.FieldType.boolean))
theorem ck_0w : ∀ k, k < 4 → u_lay C_0 F_0 k ∈ evW
  | 0, _ => w_278
  | 1, _ => w_280
  | 2, _ => w_282
  | 3, _ => w_284
  | n + 4, h => absurd h (by omega)
def ty_0 : Nat → FieldType := fun k => match k with
  | 0 => .object "MeshLines$Mesh"
  | 1 => .array (.object "MeshLines$Home")
  | 2 => .array (.object "MeshLines$Node")
  | _ => .int
theorem ck_0t : ∀ k, k < 4 → parseFieldDescriptor (F_0 k).2.2.1 = some (ty_0 k) ∧ (evF 0 k = 0 → ty_0 k = .int) ∧ (evF 0 k = 1 → ty_0 k = .boolean) ∧ (evF 0 k = 2 → (∃ n, ty_0 k = .object n) ∨ ∃ t, ty_0 k = .array t) ∧ evF 0 k ≤ 2
  | 0, _ => ⟨by decide +kernel, fun h => absurd h (by decide), fun h => absurd h (by decide), fun _ => Or.inl ⟨_, rfl⟩, by decide⟩
  | 1, _ => ⟨by decide +kernel, fun h => absurd h (by decide), fun h => absurd h (by decide), fun _ => Or.inr ⟨_, rfl⟩, by decide⟩
  | 2, _ => ⟨by decide +kernel, fun h => absurd h (by decide), fun h => absurd h (by decide), fun _ => Or.inr ⟨_, rfl⟩, by decide⟩
  | 3, _ => ⟨by decide +kernel, fun _ => rfl, fun h => absurd h (by decide), fun h => absurd h (by decide), by decide⟩
  | n + 4, h => absurd h (by omega)
theorem ck_0n : ∀ a, a < 4 → ∀ b, b < 4 → a ≠ b → (F_0 a).2.1 ≠ (F_0 b).2.1 := by decide +kernel
theorem ck_0 : ev_CK 0 C_0 F_0 4 := ⟨rfl, fun w hw => by
  obtain ⟨k, hk, rfl⟩ := List.mem_map.mp hw
  exact ck_0w k (List.mem_range.mp hk), ⟨ty_0, ck_0t⟩, ck_0n⟩
theorem ck_1w : ∀ k, k < 5 → u_lay C_1 F_1 k ∈ evW
  | 0, _ => w_134
  | 1, _ => w_136
  | 2, _ => w_138
  | 3, _ => w_140
  | 4, _ => w_142
  | n + 5, h => absurd h (by omega)
def ty_1 : Nat → FieldType := fun k => match k with
  | 0 => .array (.object "MeshLines$Lane")
  | 1 => .int
  | 2 => .int
  | 3 => .int
  | _ => .int
theorem ck_1t : ∀ k, k < 5 → parseFieldDescriptor (F_1 k).2.2.1 = some (ty_1 k) ∧ (evF 1 k = 0 → ty_1 k = .int) ∧ (evF 1 k = 1 → ty_1 k = .boolean) ∧ (evF 1 k = 2 → (∃ n, ty_1 k = .object n) ∨ ∃ t, ty_1 k = .array t) ∧ evF 1 k ≤ 2
  | 0, _ => ⟨by decide +kernel, fun h => absurd h (by decide), fun h => absurd h (by decide), fun _ => Or.inr ⟨_, rfl⟩, by decide⟩
  | 1, _ => ⟨by decide +kernel, fun _ => rfl, fun h => absurd h (by decide), fun h => absurd h (by decide), by decide⟩
  | 2, _ => ⟨by decide +kernel, fun _ => rfl, fun h => absurd h (by decide), fun h => absurd h (by decide), by decide⟩
  | 3, _ => ⟨by decide +kernel, fun _ => rfl, fun h => absurd h (by decide), fun h => absurd h (by decide), by decide⟩
  | 4, _ => ⟨by decide +kernel, fun _ => rfl, fun h => absurd h (by decide), fun h => absurd h (by decide), by decide⟩
  | n + 5, h => absurd h (by omega)
theorem ck_1n : ∀ a, a < 5 → ∀ b, b < 5 → a ≠ b → (F_1 a).2.1 ≠ (F_1 b).2.1 := by decide +kernel
theorem ck_1 : ev_CK 1 C_1 F_1 5 := ⟨rfl, fun w hw => by
  obtain ⟨k, hk, rfl⟩ := List.mem_map.mp hw
  exact ck_1w k (List.mem_range.mp hk), ⟨ty_1, ck_1t⟩, ck_1n⟩
theorem ck_2w : ∀ k, k < 7 → u_lay C_2 F_2 k ∈ evW
  | 0, _ => w_111
  | 1, _ => w_113
  | 2, _ => w_115
  | 3, _ => w_117
  | 4, _ => w_119
  | 5, _ => w_121
  | 6, _ => w_123
  | n + 7, h => absurd h (by omega)
def ty_2 : Nat → FieldType := fun k => match k with
  | 0 => .int
  | 1 => .object "java/util/ArrayList"
  | 2 => .object "java/util/ArrayList"
  | 3 => .array (.object "MeshLines$FlitBuffer")
  | 4 => .array .int
  | 5 => .array .int
  | _ => .int
theorem ck_2t : ∀ k, k < 7 → parseFieldDescriptor (F_2 k).2.2.1 = some (ty_2 k) ∧ (evF 2 k = 0 → ty_2 k = .int) ∧ (evF 2 k = 1 → ty_2 k = .boolean) ∧ (evF 2 k = 2 → (∃ n, ty_2 k = .object n) ∨ ∃ t, ty_2 k = .array t) ∧ evF 2 k ≤ 2
  | 0, _ => ⟨by decide +kernel, fun _ => rfl, fun h => absurd h (by decide), fun h => absurd h (by decide), by decide⟩
  | 1, _ => ⟨by decide +kernel, fun h => absurd h (by decide), fun h => absurd h (by decide), fun _ => Or.inl ⟨_, rfl⟩, by decide⟩
  | 2, _ => ⟨by decide +kernel, fun h => absurd h (by decide), fun h => absurd h (by decide), fun _ => Or.inl ⟨_, rfl⟩, by decide⟩
  | 3, _ => ⟨by decide +kernel, fun h => absurd h (by decide), fun h => absurd h (by decide), fun _ => Or.inr ⟨_, rfl⟩, by decide⟩
  | 4, _ => ⟨by decide +kernel, fun h => absurd h (by decide), fun h => absurd h (by decide), fun _ => Or.inr ⟨_, rfl⟩, by decide⟩
  | 5, _ => ⟨by decide +kernel, fun h => absurd h (by decide), fun h => absurd h (by decide), fun _ => Or.inr ⟨_, rfl⟩, by decide⟩
  | 6, _ => ⟨by decide +kernel, fun _ => rfl, fun h => absurd h (by decide), fun h => absurd h (by decide), by decide⟩
  | n + 7, h => absurd h (by omega)
theorem ck_2n : ∀ a, a < 7 → ∀ b, b < 7 → a ≠ b → (F_2 a).2.1 ≠ (F_2 b).2.1 := by decide +kernel
theorem ck_2 : ev_CK 2 C_2 F_2 7 := ⟨rfl, fun w hw => by
  obtain ⟨k, hk, rfl⟩ := List.mem_map.mp hw
  exact ck_2w k (List.mem_range.mp hk), ⟨ty_2, ck_2t⟩, ck_2n⟩
theorem ck_3w : ∀ k, k < 3 → u_lay C_3 F_3 k ∈ evW
  | 0, _ => w_71
  | 1, _ => w_73
  | 2, _ => w_75
  | n + 3, h => absurd h (by omega)
def ty_3 : Nat → FieldType := fun k => match k with
  | 0 => .array (.object "java/lang/Object")
  | 1 => .int
  | _ => .int
theorem ck_3t : ∀ k, k < 3 → parseFieldDescriptor (F_3 k).2.2.1 = some (ty_3 k) ∧ (evF 3 k = 0 → ty_3 k = .int) ∧ (evF 3 k = 1 → ty_3 k = .boolean) ∧ (evF 3 k = 2 → (∃ n, ty_3 k = .object n) ∨ ∃ t, ty_3 k = .array t) ∧ evF 3 k ≤ 2
  | 0, _ => ⟨by decide +kernel, fun h => absurd h (by decide), fun h => absurd h (by decide), fun _ => Or.inr ⟨_, rfl⟩, by decide⟩
  | 1, _ => ⟨by decide +kernel, fun _ => rfl, fun h => absurd h (by decide), fun h => absurd h (by decide), by decide⟩
  | 2, _ => ⟨by decide +kernel, fun _ => rfl, fun h => absurd h (by decide), fun h => absurd h (by decide), by decide⟩
  | n + 3, h => absurd h (by omega)
theorem ck_3n : ∀ a, a < 3 → ∀ b, b < 3 → a ≠ b → (F_3 a).2.1 ≠ (F_3 b).2.1 := by decide +kernel
theorem ck_3 : ev_CK 3 C_3 F_3 3 := ⟨rfl, fun w hw => by
  obtain ⟨k, hk, rfl⟩ := List.mem_map.mp hw
  exact ck_3w k (List.mem_range.mp hk), ⟨ty_3, ck_3t⟩, ck_3n⟩
theorem ck_4w : ∀ k, k < 2 → u_lay C_4 F_4 k ∈ evW
  | 0, _ => w_90
  | 1, _ => w_92
  | n + 2, h => absurd h (by omega)
def ty_4 : Nat → FieldType := fun k => match k with
  | 0 => .array (.object "MeshLines$Flit")
  | _ => .int
theorem ck_4t : ∀ k, k < 2 → parseFieldDescriptor (F_4 k).2.2.1 = some (ty_4 k) ∧ (evF 4 k = 0 → ty_4 k = .int) ∧ (evF 4 k = 1 → ty_4 k = .boolean) ∧ (evF 4 k = 2 → (∃ n, ty_4 k = .object n) ∨ ∃ t, ty_4 k = .array t) ∧ evF 4 k ≤ 2
  | 0, _ => ⟨by decide +kernel, fun h => absurd h (by decide), fun h => absurd h (by decide), fun _ => Or.inr ⟨_, rfl⟩, by decide⟩
  | 1, _ => ⟨by decide +kernel, fun _ => rfl, fun h => absurd h (by decide), fun h => absurd h (by decide), by decide⟩
  | n + 2, h => absurd h (by omega)
theorem ck_4n : ∀ a, a < 2 → ∀ b, b < 2 → a ≠ b → (F_4 a).2.1 ≠ (F_4 b).2.1 := by decide +kernel
theorem ck_4 : ev_CK 4 C_4 F_4 2 := ⟨rfl, fun w hw => by
  obtain ⟨k, hk, rfl⟩ := List.mem_map.mp hw
  exact ck_4w k (List.mem_range.mp hk), ⟨ty_4, ck_4t⟩, ck_4n⟩
theorem ck_5w : ∀ k, k < 7 → u_lay C_5 F_5 k ∈ evW
  | 0, _ => w_166
  | 1, _ => w_168
  | 2, _ => w_170
  | 3, _ => w_172
  | 4, _ => w_174
  | 5, _ => w_176
  | 6, _ => w_178
  | n + 7, h => absurd h (by omega)
def ty_5 : Nat → FieldType := fun k => match k with
  | 0 => .int
  | 1 => .int
  | 2 => .object "MeshLines$Mesh"
  | 3 => .int
  | 4 => .int
  | 5 => .int
  | _ => .int
theorem ck_5t : ∀ k, k < 7 → parseFieldDescriptor (F_5 k).2.2.1 = some (ty_5 k) ∧ (evF 5 k = 0 → ty_5 k = .int) ∧ (evF 5 k = 1 → ty_5 k = .boolean) ∧ (evF 5 k = 2 → (∃ n, ty_5 k = .object n) ∨ ∃ t, ty_5 k = .array t) ∧ evF 5 k ≤ 2
  | 0, _ => ⟨by decide +kernel, fun _ => rfl, fun h => absurd h (by decide), fun h => absurd h (by decide), by decide⟩
  | 1, _ => ⟨by decide +kernel, fun _ => rfl, fun h => absurd h (by decide), fun h => absurd h (by decide), by decide⟩
  | 2, _ => ⟨by decide +kernel, fun h => absurd h (by decide), fun h => absurd h (by decide), fun _ => Or.inl ⟨_, rfl⟩, by decide⟩
  | 3, _ => ⟨by decide +kernel, fun _ => rfl, fun h => absurd h (by decide), fun h => absurd h (by decide), by decide⟩
  | 4, _ => ⟨by decide +kernel, fun _ => rfl, fun h => absurd h (by decide), fun h => absurd h (by decide), by decide⟩
  | 5, _ => ⟨by decide +kernel, fun _ => rfl, fun h => absurd h (by decide), fun h => absurd h (by decide), by decide⟩
  | 6, _ => ⟨by decide +kernel, fun _ => rfl, fun h => absurd h (by decide), fun h => absurd h (by decide), by decide⟩
  | n + 7, h => absurd h (by omega)
theorem ck_5n : ∀ a, a < 7 → ∀ b, b < 7 → a ≠ b → (F_5 a).2.1 ≠ (F_5 b).2.1 := by decide +kernel
theorem ck_5 : ev_CK 5 C_5 F_5 7 := ⟨rfl, fun w hw => by
  obtain ⟨k, hk, rfl⟩ := List.mem_map.mp hw
  exact ck_5w k (List.mem_range.mp hk), ⟨ty_5, ck_5t⟩, ck_5n⟩
theorem ck_6w : ∀ k, k < 5 → u_lay C_6 F_6 k ∈ evW
  | 0, _ => w_263
  | 1, _ => w_265
  | 2, _ => w_267
  | 3, _ => w_269
  | 4, _ => w_271
  | n + 5, h => absurd h (by omega)
def ty_6 : Nat → FieldType := fun k => match k with
  | 0 => .int
  | 1 => .object "MeshLines$Mesh"
  | 2 => .array (.object "MeshLines$Home")
  | 3 => .object "MeshLines$Cache"
  | _ => .object "MeshLines$Core"
theorem ck_6t : ∀ k, k < 5 → parseFieldDescriptor (F_6 k).2.2.1 = some (ty_6 k) ∧ (evF 6 k = 0 → ty_6 k = .int) ∧ (evF 6 k = 1 → ty_6 k = .boolean) ∧ (evF 6 k = 2 → (∃ n, ty_6 k = .object n) ∨ ∃ t, ty_6 k = .array t) ∧ evF 6 k ≤ 2
  | 0, _ => ⟨by decide +kernel, fun _ => rfl, fun h => absurd h (by decide), fun h => absurd h (by decide), by decide⟩
  | 1, _ => ⟨by decide +kernel, fun h => absurd h (by decide), fun h => absurd h (by decide), fun _ => Or.inl ⟨_, rfl⟩, by decide⟩
  | 2, _ => ⟨by decide +kernel, fun h => absurd h (by decide), fun h => absurd h (by decide), fun _ => Or.inr ⟨_, rfl⟩, by decide⟩
  | 3, _ => ⟨by decide +kernel, fun h => absurd h (by decide), fun h => absurd h (by decide), fun _ => Or.inl ⟨_, rfl⟩, by decide⟩
  | 4, _ => ⟨by decide +kernel, fun h => absurd h (by decide), fun h => absurd h (by decide), fun _ => Or.inl ⟨_, rfl⟩, by decide⟩
  | n + 5, h => absurd h (by omega)
theorem ck_6n : ∀ a, a < 5 → ∀ b, b < 5 → a ≠ b → (F_6 a).2.1 ≠ (F_6 b).2.1 := by decide +kernel
theorem ck_6 : ev_CK 6 C_6 F_6 5 := ⟨rfl, fun w hw => by
  obtain ⟨k, hk, rfl⟩ := List.mem_map.mp hw
  exact ck_6w k (List.mem_range.mp hk), ⟨ty_6, ck_6t⟩, ck_6n⟩
theorem ck_7w : ∀ k, k < 6 → u_lay C_7 F_7 k ∈ evW
  | 0, _ => w_207
  | 1, _ => w_209
  | 2, _ => w_211
  | 3, _ => w_213
  | 4, _ => w_215
  | 5, _ => w_217
  | n + 6, h => absurd h (by omega)
def ty_7 : Nat → FieldType := fun k => match k with
  | 0 => .int
  | 1 => .object "MeshLines$Mesh"
  | 2 => .array .int
  | 3 => .array .int
  | 4 => .array .int
  | _ => .array .int
theorem ck_7t : ∀ k, k < 6 → parseFieldDescriptor (F_7 k).2.2.1 = some (ty_7 k) ∧ (evF 7 k = 0 → ty_7 k = .int) ∧ (evF 7 k = 1 → ty_7 k = .boolean) ∧ (evF 7 k = 2 → (∃ n, ty_7 k = .object n) ∨ ∃ t, ty_7 k = .array t) ∧ evF 7 k ≤ 2
  | 0, _ => ⟨by decide +kernel, fun _ => rfl, fun h => absurd h (by decide), fun h => absurd h (by decide), by decide⟩
  | 1, _ => ⟨by decide +kernel, fun h => absurd h (by decide), fun h => absurd h (by decide), fun _ => Or.inl ⟨_, rfl⟩, by decide⟩
  | 2, _ => ⟨by decide +kernel, fun h => absurd h (by decide), fun h => absurd h (by decide), fun _ => Or.inr ⟨_, rfl⟩, by decide⟩
  | 3, _ => ⟨by decide +kernel, fun h => absurd h (by decide), fun h => absurd h (by decide), fun _ => Or.inr ⟨_, rfl⟩, by decide⟩
  | 4, _ => ⟨by decide +kernel, fun h => absurd h (by decide), fun h => absurd h (by decide), fun _ => Or.inr ⟨_, rfl⟩, by decide⟩
  | 5, _ => ⟨by decide +kernel, fun h => absurd h (by decide), fun h => absurd h (by decide), fun _ => Or.inr ⟨_, rfl⟩, by decide⟩
  | n + 6, h => absurd h (by omega)
theorem ck_7n : ∀ a, a < 6 → ∀ b, b < 6 → a ≠ b → (F_7 a).2.1 ≠ (F_7 b).2.1 := by decide +kernel
theorem ck_7 : ev_CK 7 C_7 F_7 6 := ⟨rfl, fun w hw => by
  obtain ⟨k, hk, rfl⟩ := List.mem_map.mp hw
  exact ck_7w k (List.mem_range.mp hk), ⟨ty_7, ck_7t⟩, ck_7n⟩
theorem ck_8w : ∀ k, k < 9 → u_lay C_8 F_8 k ∈ evW
  | 0, _ => w_237
  | 1, _ => w_239
  | 2, _ => w_241
  | 3, _ => w_243
  | 4, _ => w_245
  | 5, _ => w_247
  | 6, _ => w_249
  | 7, _ => w_251
  | 8, _ => w_253
  | n + 9, h => absurd h (by omega)
def ty_8 : Nat → FieldType := fun k => match k with
  | 0 => .object "MeshLines$Cache"
  | 1 => .array .int
  | 2 => .array .int
  | 3 => .array .int
  | 4 => .array .int
  | 5 => .array .int
  | 6 => .int
  | 7 => .int
  | _ => .int
theorem ck_8t : ∀ k, k < 9 → parseFieldDescriptor (F_8 k).2.2.1 = some (ty_8 k) ∧ (evF 8 k = 0 → ty_8 k = .int) ∧ (evF 8 k = 1 → ty_8 k = .boolean) ∧ (evF 8 k = 2 → (∃ n, ty_8 k = .object n) ∨ ∃ t, ty_8 k = .array t) ∧ evF 8 k ≤ 2
  | 0, _ => ⟨by decide +kernel, fun h => absurd h (by decide), fun h => absurd h (by decide), fun _ => Or.inl ⟨_, rfl⟩, by decide⟩
  | 1, _ => ⟨by decide +kernel, fun h => absurd h (by decide), fun h => absurd h (by decide), fun _ => Or.inr ⟨_, rfl⟩, by decide⟩
  | 2, _ => ⟨by decide +kernel, fun h => absurd h (by decide), fun h => absurd h (by decide), fun _ => Or.inr ⟨_, rfl⟩, by decide⟩
  | 3, _ => ⟨by decide +kernel, fun h => absurd h (by decide), fun h => absurd h (by decide), fun _ => Or.inr ⟨_, rfl⟩, by decide⟩
  | 4, _ => ⟨by decide +kernel, fun h => absurd h (by decide), fun h => absurd h (by decide), fun _ => Or.inr ⟨_, rfl⟩, by decide⟩
  | 5, _ => ⟨by decide +kernel, fun h => absurd h (by decide), fun h => absurd h (by decide), fun _ => Or.inr ⟨_, rfl⟩, by decide⟩
  | 6, _ => ⟨by decide +kernel, fun _ => rfl, fun h => absurd h (by decide), fun h => absurd h (by decide), by decide⟩
  | 7, _ => ⟨by decide +kernel, fun _ => rfl, fun h => absurd h (by decide), fun h => absurd h (by decide), by decide⟩
  | 8, _ => ⟨by decide +kernel, fun _ => rfl, fun h => absurd h (by decide), fun h => absurd h (by decide), by decide⟩
  | n + 9, h => absurd h (by omega)
theorem ck_8n : ∀ a, a < 9 → ∀ b, b < 9 → a ≠ b → (F_8 a).2.1 ≠ (F_8 b).2.1 := by decide +kernel
theorem ck_8 : ev_CK 8 C_8 F_8 9 := ⟨rfl, fun w hw => by
  obtain ⟨k, hk, rfl⟩ := List.mem_map.mp hw
  exact ck_8w k (List.mem_range.mp hk), ⟨ty_8, ck_8t⟩, ck_8n⟩
theorem ck_9w : ∀ k, k < 4 → u_lay C_9 F_9 k ∈ evW
  | 0, _ => w_349
  | 1, _ => w_351
  | 2, _ => w_353
  | 3, _ => w_355
  | n + 4, h => absurd h (by omega)
def ty_9 : Nat → FieldType := fun k => match k with
  | 0 => .object "MeshLines$Packet"
  | 1 => .boolean
  | 2 => .boolean
  | _ => .int
theorem ck_9t : ∀ k, k < 4 → parseFieldDescriptor (F_9 k).2.2.1 = some (ty_9 k) ∧ (evF 9 k = 0 → ty_9 k = .int) ∧ (evF 9 k = 1 → ty_9 k = .boolean) ∧ (evF 9 k = 2 → (∃ n, ty_9 k = .object n) ∨ ∃ t, ty_9 k = .array t) ∧ evF 9 k ≤ 2
  | 0, _ => ⟨by decide +kernel, fun h => absurd h (by decide), fun h => absurd h (by decide), fun _ => Or.inl ⟨_, rfl⟩, by decide⟩
  | 1, _ => ⟨by decide +kernel, fun h => absurd h (by decide), fun _ => rfl, fun h => absurd h (by decide), by decide⟩
  | 2, _ => ⟨by decide +kernel, fun h => absurd h (by decide), fun _ => rfl, fun h => absurd h (by decide), by decide⟩
  | 3, _ => ⟨by decide +kernel, fun _ => rfl, fun h => absurd h (by decide), fun h => absurd h (by decide), by decide⟩
  | n + 4, h => absurd h (by omega)
theorem ck_9n : ∀ a, a < 4 → ∀ b, b < 4 → a ≠ b → (F_9 a).2.1 ≠ (F_9 b).2.1 := by decide +kernel
theorem ck_9 : ev_CK 9 C_9 F_9 4 := ⟨rfl, fun w hw => by
  obtain ⟨k, hk, rfl⟩ := List.mem_map.mp hw
  exact ck_9w k (List.mem_range.mp hk), ⟨ty_9, ck_9t⟩, ck_9n⟩
theorem ck_10w : ∀ k, k < 7 → u_lay C_10 F_10 k ∈ evW
  | 0, _ => w_546
  | 1, _ => w_548
  | 2, _ => w_550
  | 3, _ => w_552
  | 4, _ => w_554
  | 5, _ => w_556
  | 6, _ => w_558
  | n + 7, h => absurd h (by omega)
def ty_10 : Nat → FieldType := fun k => match k with
  | 0 => .int
  | 1 => .int
  | 2 => .int
  | 3 => .int
  | 4 => .int
  | 5 => .int
  | _ => .int
theorem ck_10t : ∀ k, k < 7 → parseFieldDescriptor (F_10 k).2.2.1 = some (ty_10 k) ∧ (evF 10 k = 0 → ty_10 k = .int) ∧ (evF 10 k = 1 → ty_10 k = .boolean) ∧ (evF 10 k = 2 → (∃ n, ty_10 k = .object n) ∨ ∃ t, ty_10 k = .array t) ∧ evF 10 k ≤ 2
  | 0, _ => ⟨by decide +kernel, fun _ => rfl, fun h => absurd h (by decide), fun h => absurd h (by decide), by decide⟩
  | 1, _ => ⟨by decide +kernel, fun _ => rfl, fun h => absurd h (by decide), fun h => absurd h (by decide), by decide⟩
  | 2, _ => ⟨by decide +kernel, fun _ => rfl, fun h => absurd h (by decide), fun h => absurd h (by decide), by decide⟩
  | 3, _ => ⟨by decide +kernel, fun _ => rfl, fun h => absurd h (by decide), fun h => absurd h (by decide), by decide⟩
  | 4, _ => ⟨by decide +kernel, fun _ => rfl, fun h => absurd h (by decide), fun h => absurd h (by decide), by decide⟩
  | 5, _ => ⟨by decide +kernel, fun _ => rfl, fun h => absurd h (by decide), fun h => absurd h (by decide), by decide⟩
  | 6, _ => ⟨by decide +kernel, fun _ => rfl, fun h => absurd h (by decide), fun h => absurd h (by decide), by decide⟩
  | n + 7, h => absurd h (by omega)
theorem ck_10n : ∀ a, a < 7 → ∀ b, b < 7 → a ≠ b → (F_10 a).2.1 ≠ (F_10 b).2.1 := by decide +kernel
theorem ck_10 : ev_CK 10 C_10 F_10 7 := ⟨rfl, fun w hw => by
  obtain ⟨k, hk, rfl⟩ := List.mem_map.mp hw
  exact ck_10w k (List.mem_range.mp hk), ⟨ty_10, ck_10t⟩, ck_10n⟩
theorem ck_11w : ∀ k, k < 41 → u_lay C_11 F_11 k ∈ evW
  | 0, _ => w_719
  | 1, _ => w_721
  | 2, _ => w_723
  | 3, _ => w_725
  | 4, _ => w_727
  | 5, _ => w_729
  | 6, _ => w_731
  | 7, _ => w_733
  | 8, _ => w_735
  | 9, _ => w_737
  | 10, _ => w_739
  | 11, _ => w_741
  | 12, _ => w_743
  | 13, _ => w_745
  | 14, _ => w_747
  | 15, _ => w_749
  | 16, _ => w_751
  | 17, _ => w_753
  | 18, _ => w_755
  | 19, _ => w_757
  | 20, _ => w_759
  | 21, _ => w_761
  | 22, _ => w_763
  | 23, _ => w_765
  | 24, _ => w_767
  | 25, _ => w_769
  | 26, _ => w_771
  | 27, _ => w_773
  | 28, _ => w_775
  | 29, _ => w_777
  | 30, _ => w_779
  | 31, _ => w_781
  | 32, _ => w_783
  | 33, _ => w_785
  | 34, _ => w_787
  | 35, _ => w_789
  | 36, _ => w_791
  | 37, _ => w_793
  | 38, _ => w_795
  | 39, _ => w_797
  | 40, _ => w_799
  | n + 41, h => absurd h (by omega)
def ty_11 : Nat → FieldType := fun k => match k with
  | 0 => .int
  | 1 => .int
  | 2 => .int
  | 3 => .array .boolean
  | 4 => .array .int
  | 5 => .array .int
  | 6 => .array .int
  | 7 => .array .int
  | 8 => .array .int
  | 9 => .array .int
  | 10 => .array .int
  | 11 => .array .int
  | 12 => .array .int
  | 13 => .array .int
  | 14 => .array .int
  | 15 => .array .int
  | 16 => .array .int
  | 17 => .array .int
  | 18 => .array .int
  | 19 => .array .int
  | 20 => .array .int
  | 21 => .array .int
  | 22 => .array .int
  | 23 => .array .int
  | 24 => .array .int
  | 25 => .array .int
  | 26 => .array .int
  | 27 => .array .int
  | 28 => .array .int
  | 29 => .array .int
  | 30 => .array .int
  | 31 => .array .int
  | 32 => .array .int
  | 33 => .array .int
  | 34 => .array .int
  | 35 => .array .int
  | 36 => .array .int
  | 37 => .array .boolean
  | 38 => .int
  | 39 => .int
  | _ => .int
theorem ck_11t : ∀ k, k < 41 → parseFieldDescriptor (F_11 k).2.2.1 = some (ty_11 k) ∧ (evF 11 k = 0 → ty_11 k = .int) ∧ (evF 11 k = 1 → ty_11 k = .boolean) ∧ (evF 11 k = 2 → (∃ n, ty_11 k = .object n) ∨ ∃ t, ty_11 k = .array t) ∧ evF 11 k ≤ 2
  | 0, _ => ⟨by decide +kernel, fun _ => rfl, fun h => absurd h (by decide), fun h => absurd h (by decide), by decide⟩
  | 1, _ => ⟨by decide +kernel, fun _ => rfl, fun h => absurd h (by decide), fun h => absurd h (by decide), by decide⟩
  | 2, _ => ⟨by decide +kernel, fun _ => rfl, fun h => absurd h (by decide), fun h => absurd h (by decide), by decide⟩
  | 3, _ => ⟨by decide +kernel, fun h => absurd h (by decide), fun h => absurd h (by decide), fun _ => Or.inr ⟨_, rfl⟩, by decide⟩
  | 4, _ => ⟨by decide +kernel, fun h => absurd h (by decide), fun h => absurd h (by decide), fun _ => Or.inr ⟨_, rfl⟩, by decide⟩
  | 5, _ => ⟨by decide +kernel, fun h => absurd h (by decide), fun h => absurd h (by decide), fun _ => Or.inr ⟨_, rfl⟩, by decide⟩
  | 6, _ => ⟨by decide +kernel, fun h => absurd h (by decide), fun h => absurd h (by decide), fun _ => Or.inr ⟨_, rfl⟩, by decide⟩
  | 7, _ => ⟨by decide +kernel, fun h => absurd h (by decide), fun h => absurd h (by decide), fun _ => Or.inr ⟨_, rfl⟩, by decide⟩
  | 8, _ => ⟨by decide +kernel, fun h => absurd h (by decide), fun h => absurd h (by decide), fun _ => Or.inr ⟨_, rfl⟩, by decide⟩
  | 9, _ => ⟨by decide +kernel, fun h => absurd h (by decide), fun h => absurd h (by decide), fun _ => Or.inr ⟨_, rfl⟩, by decide⟩
  | 10, _ => ⟨by decide +kernel, fun h => absurd h (by decide), fun h => absurd h (by decide), fun _ => Or.inr ⟨_, rfl⟩, by decide⟩
  | 11, _ => ⟨by decide +kernel, fun h => absurd h (by decide), fun h => absurd h (by decide), fun _ => Or.inr ⟨_, rfl⟩, by decide⟩
  | 12, _ => ⟨by decide +kernel, fun h => absurd h (by decide), fun h => absurd h (by decide), fun _ => Or.inr ⟨_, rfl⟩, by decide⟩
  | 13, _ => ⟨by decide +kernel, fun h => absurd h (by decide), fun h => absurd h (by decide), fun _ => Or.inr ⟨_, rfl⟩, by decide⟩
  | 14, _ => ⟨by decide +kernel, fun h => absurd h (by decide), fun h => absurd h (by decide), fun _ => Or.inr ⟨_, rfl⟩, by decide⟩
  | 15, _ => ⟨by decide +kernel, fun h => absurd h (by decide), fun h => absurd h (by decide), fun _ => Or.inr ⟨_, rfl⟩, by decide⟩
  | 16, _ => ⟨by decide +kernel, fun h => absurd h (by decide), fun h => absurd h (by decide), fun _ => Or.inr ⟨_, rfl⟩, by decide⟩
  | 17, _ => ⟨by decide +kernel, fun h => absurd h (by decide), fun h => absurd h (by decide), fun _ => Or.inr ⟨_, rfl⟩, by decide⟩
  | 18, _ => ⟨by decide +kernel, fun h => absurd h (by decide), fun h => absurd h (by decide), fun _ => Or.inr ⟨_, rfl⟩, by decide⟩
  | 19, _ => ⟨by decide +kernel, fun h => absurd h (by decide), fun h => absurd h (by decide), fun _ => Or.inr ⟨_, rfl⟩, by decide⟩
  | 20, _ => ⟨by decide +kernel, fun h => absurd h (by decide), fun h => absurd h (by decide), fun _ => Or.inr ⟨_, rfl⟩, by decide⟩
  | 21, _ => ⟨by decide +kernel, fun h => absurd h (by decide), fun h => absurd h (by decide), fun _ => Or.inr ⟨_, rfl⟩, by decide⟩
  | 22, _ => ⟨by decide +kernel, fun h => absurd h (by decide), fun h => absurd h (by decide), fun _ => Or.inr ⟨_, rfl⟩, by decide⟩
  | 23, _ => ⟨by decide +kernel, fun h => absurd h (by decide), fun h => absurd h (by decide), fun _ => Or.inr ⟨_, rfl⟩, by decide⟩
  | 24, _ => ⟨by decide +kernel, fun h => absurd h (by decide), fun h => absurd h (by decide), fun _ => Or.inr ⟨_, rfl⟩, by decide⟩
  | 25, _ => ⟨by decide +kernel, fun h => absurd h (by decide), fun h => absurd h (by decide), fun _ => Or.inr ⟨_, rfl⟩, by decide⟩
  | 26, _ => ⟨by decide +kernel, fun h => absurd h (by decide), fun h => absurd h (by decide), fun _ => Or.inr ⟨_, rfl⟩, by decide⟩
  | 27, _ => ⟨by decide +kernel, fun h => absurd h (by decide), fun h => absurd h (by decide), fun _ => Or.inr ⟨_, rfl⟩, by decide⟩
  | 28, _ => ⟨by decide +kernel, fun h => absurd h (by decide), fun h => absurd h (by decide), fun _ => Or.inr ⟨_, rfl⟩, by decide⟩
  | 29, _ => ⟨by decide +kernel, fun h => absurd h (by decide), fun h => absurd h (by decide), fun _ => Or.inr ⟨_, rfl⟩, by decide⟩
  | 30, _ => ⟨by decide +kernel, fun h => absurd h (by decide), fun h => absurd h (by decide), fun _ => Or.inr ⟨_, rfl⟩, by decide⟩
  | 31, _ => ⟨by decide +kernel, fun h => absurd h (by decide), fun h => absurd h (by decide), fun _ => Or.inr ⟨_, rfl⟩, by decide⟩
  | 32, _ => ⟨by decide +kernel, fun h => absurd h (by decide), fun h => absurd h (by decide), fun _ => Or.inr ⟨_, rfl⟩, by decide⟩
  | 33, _ => ⟨by decide +kernel, fun h => absurd h (by decide), fun h => absurd h (by decide), fun _ => Or.inr ⟨_, rfl⟩, by decide⟩
  | 34, _ => ⟨by decide +kernel, fun h => absurd h (by decide), fun h => absurd h (by decide), fun _ => Or.inr ⟨_, rfl⟩, by decide⟩
  | 35, _ => ⟨by decide +kernel, fun h => absurd h (by decide), fun h => absurd h (by decide), fun _ => Or.inr ⟨_, rfl⟩, by decide⟩
  | 36, _ => ⟨by decide +kernel, fun h => absurd h (by decide), fun h => absurd h (by decide), fun _ => Or.inr ⟨_, rfl⟩, by decide⟩
  | 37, _ => ⟨by decide +kernel, fun h => absurd h (by decide), fun h => absurd h (by decide), fun _ => Or.inr ⟨_, rfl⟩, by decide⟩
  | 38, _ => ⟨by decide +kernel, fun _ => rfl, fun h => absurd h (by decide), fun h => absurd h (by decide), by decide⟩
  | 39, _ => ⟨by decide +kernel, fun _ => rfl, fun h => absurd h (by decide), fun h => absurd h (by decide), by decide⟩
  | 40, _ => ⟨by decide +kernel, fun _ => rfl, fun h => absurd h (by decide), fun h => absurd h (by decide), by decide⟩
  | n + 41, h => absurd h (by omega)
theorem ck_11n : ∀ a, a < 41 → ∀ b, b < 41 → a ≠ b → (F_11 a).2.1 ≠ (F_11 b).2.1 := by decide +kernel
theorem ck_11 : ev_CK 11 C_11 F_11 41 := ⟨rfl, fun w hw => by
  obtain ⟨k, hk, rfl⟩ := List.mem_map.mp hw
  exact ck_11w k (List.mem_range.mp hk), ⟨ty_11, ck_11t⟩, ck_11n⟩
theorem ao_52 : ev_AO 52 10 := ⟨_, _, _, _, rfl, (ck_10).1, fun E s hK comp c0 h1 h2 => vb_asgC (xc_52 _ hK.2.2.2.2.1) comp c0 h1 h2⟩
theorem ao_53 : ev_AO 53 5 := ⟨_, _, _, _, rfl, (ck_5).1, fun E s hK comp c0 h1 h2 => vb_asgS comp c0 h1 h2⟩
theorem ao_54 : ev_AO 54 6 := ⟨_, _, _, _, rfl, (ck_6).1, fun E s hK comp c0 h1 h2 => vb_asgS comp c0 h1 h2⟩
theorem ao_55 : ev_AO 55 2 := ⟨_, _, _, _, rfl, (ck_2).1, fun E s hK comp c0 h1 h2 => vb_asgS comp c0 h1 h2⟩
theorem ao_56 : ev_AO 56 4 := ⟨_, _, _, _, rfl, (ck_4).1, fun E s hK comp c0 h1 h2 => vb_asgS comp c0 h1 h2⟩
theorem ao_57 : ev_AO 57 9 := ⟨_, _, _, _, rfl, (ck_9).1, fun E s hK comp c0 h1 h2 => vb_asgS comp c0 h1 h2⟩
theorem fl_ML_18 : ev_FL "MeshLines" 18 0 0 := ⟨_, _, _, "MeshLines", ck_0, by decide, w_274, Or.inl rfl⟩
theorem fl_ML_24 : ev_FL "MeshLines" 24 0 1 := ⟨_, _, _, "MeshLines", ck_0, by decide, w_275, Or.inl rfl⟩
theorem fl_ML_33 : ev_FL "MeshLines" 33 0 2 := ⟨_, _, _, "MeshLines", ck_0, by decide, w_276, Or.inl rfl⟩
theorem fl_ML_44 : ev_FL "MeshLines" 44 6 4 := ⟨_, _, _, "MeshLines$Node", ck_6, by decide, w_262, Or.inl rfl⟩
theorem fl_ML_54 : ev_FL "MeshLines" 54 0 3 := ⟨_, _, _, "MeshLines", ck_0, by decide, w_277, Or.inl rfl⟩
theorem fl_ML_71 : ev_FL "MeshLines" 71 8 7 := ⟨_, _, _, "MeshLines$Core", ck_8, by decide, w_235, Or.inl rfl⟩
theorem fl_ML_74 : ev_FL "MeshLines" 74 8 5 := ⟨_, _, _, "MeshLines$Core", ck_8, by decide, w_232, Or.inl rfl⟩
theorem fl_ML_78 : ev_FL "MeshLines" 78 6 3 := ⟨_, _, _, "MeshLines$Node", ck_6, by decide, w_260, Or.inl rfl⟩
theorem fl_ML_82 : ev_FL "MeshLines" 82 7 2 := ⟨_, _, _, "MeshLines$Cache", ck_7, by decide, w_198, Or.inl rfl⟩
theorem fl_ML_87 : ev_FL "MeshLines" 87 7 3 := ⟨_, _, _, "MeshLines$Cache", ck_7, by decide, w_201, Or.inl rfl⟩
theorem fl_ML_90 : ev_FL "MeshLines" 90 7 4 := ⟨_, _, _, "MeshLines$Cache", ck_7, by decide, w_203, Or.inl rfl⟩
theorem fl_ML_93 : ev_FL "MeshLines" 93 7 5 := ⟨_, _, _, "MeshLines$Cache", ck_7, by decide, w_206, Or.inl rfl⟩
theorem fl_ML_96 : ev_FL "MeshLines" 96 5 3 := ⟨_, _, _, "MeshLines$Home", ck_5, by decide, w_159, Or.inl rfl⟩
theorem fl_ML_99 : ev_FL "MeshLines" 99 5 6 := ⟨_, _, _, "MeshLines$Home", ck_5, by decide, w_165, Or.inl rfl⟩
theorem fl_ML_102 : ev_FL "MeshLines" 102 5 4 := ⟨_, _, _, "MeshLines$Home", ck_5, by decide, w_161, Or.inl rfl⟩
theorem fl_ML_105 : ev_FL "MeshLines" 105 5 5 := ⟨_, _, _, "MeshLines$Home", ck_5, by decide, w_163, Or.inl rfl⟩
theorem fl_ML_112 : ev_FL "MeshLines" 112 2 1 := ⟨_, _, _, "MeshLines$Lane", ck_2, by decide, w_99, Or.inl rfl⟩
theorem fl_ML_124 : ev_FL "MeshLines" 124 2 2 := ⟨_, _, _, "MeshLines$Lane", ck_2, by decide, w_103, Or.inl rfl⟩
theorem fl_ML_127 : ev_FL "MeshLines" 127 2 3 := ⟨_, _, _, "MeshLines$Lane", ck_2, by decide, w_106, Or.inl rfl⟩
theorem fl_ML_131 : ev_FL "MeshLines" 131 4 1 := ⟨_, _, _, "MeshLines$FlitBuffer", ck_4, by decide, w_89, Or.inl rfl⟩
theorem fl_ML_135 : ev_FL "MeshLines" 135 2 4 := ⟨_, _, _, "MeshLines$Lane", ck_2, by decide, w_108, Or.inl rfl⟩
theorem fl_ML_138 : ev_FL "MeshLines" 138 1 2 := ⟨_, _, _, "MeshLines$Mesh", ck_1, by decide, w_129, Or.inl rfl⟩
theorem fl_ML_141 : ev_FL "MeshLines" 141 1 3 := ⟨_, _, _, "MeshLines$Mesh", ck_1, by decide, w_131, Or.inl rfl⟩
theorem fl_ML_144 : ev_FL "MeshLines" 144 1 4 := ⟨_, _, _, "MeshLines$Mesh", ck_1, by decide, w_133, Or.inl rfl⟩
theorem fl_Ca_9 : ev_FL "MeshLines$Cache" 9 7 2 := ⟨_, _, _, "MeshLines$Cache", ck_7, by decide, w_196, Or.inl rfl⟩
theorem fl_Ca_15 : ev_FL "MeshLines$Cache" 15 7 3 := ⟨_, _, _, "MeshLines$Cache", ck_7, by decide, w_199, Or.inl rfl⟩
theorem fl_Ca_18 : ev_FL "MeshLines$Cache" 18 7 4 := ⟨_, _, _, "MeshLines$Cache", ck_7, by decide, w_202, Or.inl rfl⟩
theorem fl_Ca_21 : ev_FL "MeshLines$Cache" 21 7 5 := ⟨_, _, _, "MeshLines$Cache", ck_7, by decide, w_204, Or.inl rfl⟩
theorem fl_Ca_24 : ev_FL "MeshLines$Cache" 24 7 0 := ⟨_, _, _, "MeshLines$Cache", ck_7, by decide, w_194, Or.inl rfl⟩
theorem fl_Ca_28 : ev_FL "MeshLines$Cache" 28 7 1 := ⟨_, _, _, "MeshLines$Cache", ck_7, by decide, w_195, Or.inl rfl⟩
theorem fl_Ca_32 : ev_FL "MeshLines$Cache" 32 10 1 := ⟨_, _, _, "MeshLines$Packet", ck_10, by decide, w_532, Or.inl rfl⟩
theorem fl_Ca_37 : ev_FL "MeshLines$Cache" 37 10 0 := ⟨_, _, _, "MeshLines$Packet", ck_10, by decide, w_530, Or.inl rfl⟩
theorem fl_Ca_56 : ev_FL "MeshLines$Cache" 56 10 3 := ⟨_, _, _, "MeshLines$Packet", ck_10, by decide, w_538, Or.inl rfl⟩
theorem fl_Ca_67 : ev_FL "MeshLines$Cache" 67 10 5 := ⟨_, _, _, "MeshLines$Packet", ck_10, by decide, w_543, Or.inl rfl⟩
theorem fl_Ca_70 : ev_FL "MeshLines$Cache" 70 10 4 := ⟨_, _, _, "MeshLines$Packet", ck_10, by decide, w_541, Or.inl rfl⟩
theorem fl_Co_9 : ev_FL "MeshLines$Core" 9 8 1 := ⟨_, _, _, "MeshLines$Core", ck_8, by decide, w_227, Or.inl rfl⟩
theorem fl_Co_15 : ev_FL "MeshLines$Core" 15 8 2 := ⟨_, _, _, "MeshLines$Core", ck_8, by decide, w_228, Or.inl rfl⟩
theorem fl_Co_18 : ev_FL "MeshLines$Core" 18 8 3 := ⟨_, _, _, "MeshLines$Core", ck_8, by decide, w_229, Or.inl rfl⟩
theorem fl_Co_21 : ev_FL "MeshLines$Core" 21 8 4 := ⟨_, _, _, "MeshLines$Core", ck_8, by decide, w_230, Or.inl rfl⟩
theorem fl_Co_24 : ev_FL "MeshLines$Core" 24 8 5 := ⟨_, _, _, "MeshLines$Core", ck_8, by decide, w_231, Or.inl rfl⟩
theorem fl_Co_27 : ev_FL "MeshLines$Core" 27 8 0 := ⟨_, _, _, "MeshLines$Core", ck_8, by decide, w_226, Or.inl rfl⟩
theorem fl_Co_31 : ev_FL "MeshLines$Core" 31 8 6 := ⟨_, _, _, "MeshLines$Core", ck_8, by decide, w_233, Or.inl rfl⟩
theorem fl_Co_35 : ev_FL "MeshLines$Core" 35 8 7 := ⟨_, _, _, "MeshLines$Core", ck_8, by decide, w_234, Or.inl rfl⟩
theorem fl_Co_38 : ev_FL "MeshLines$Core" 38 8 8 := ⟨_, _, _, "MeshLines$Core", ck_8, by decide, w_236, Or.inl rfl⟩
theorem fl_Co_41 : ev_FL "MeshLines$Core" 41 7 2 := ⟨_, _, _, "MeshLines$Cache", ck_7, by decide, w_197, Or.inl rfl⟩
theorem fl_Co_65 : ev_FL "MeshLines$Core" 65 7 3 := ⟨_, _, _, "MeshLines$Cache", ck_7, by decide, w_200, Or.inl rfl⟩
theorem fl_Co_66 : ev_FL "MeshLines$Core" 66 7 5 := ⟨_, _, _, "MeshLines$Cache", ck_7, by decide, w_205, Or.inl rfl⟩
theorem fl_Fl_17 : ev_FL "MeshLines$Flit" 17 10 6 := ⟨_, _, _, "MeshLines$Packet", ck_10, by decide, w_544, Or.inl rfl⟩
theorem fl_FB_9 : ev_FL "MeshLines$FlitBuffer" 9 4 0 := ⟨_, _, _, "MeshLines$FlitBuffer", ck_4, by decide, w_87, Or.inl rfl⟩
theorem fl_FB_15 : ev_FL "MeshLines$FlitBuffer" 15 4 1 := ⟨_, _, _, "MeshLines$FlitBuffer", ck_4, by decide, w_88, Or.inl rfl⟩
theorem fl_Ho_11 : ev_FL "MeshLines$Home" 11 5 3 := ⟨_, _, _, "MeshLines$Home", ck_5, by decide, w_158, Or.inl rfl⟩
theorem fl_Ho_15 : ev_FL "MeshLines$Home" 15 5 4 := ⟨_, _, _, "MeshLines$Home", ck_5, by decide, w_160, Or.inl rfl⟩
theorem fl_Ho_18 : ev_FL "MeshLines$Home" 18 5 0 := ⟨_, _, _, "MeshLines$Home", ck_5, by decide, w_155, Or.inl rfl⟩
theorem fl_Ho_25 : ev_FL "MeshLines$Home" 25 5 1 := ⟨_, _, _, "MeshLines$Home", ck_5, by decide, w_156, Or.inl rfl⟩
theorem fl_Ho_28 : ev_FL "MeshLines$Home" 28 5 2 := ⟨_, _, _, "MeshLines$Home", ck_5, by decide, w_157, Or.inl rfl⟩
theorem fl_Ho_32 : ev_FL "MeshLines$Home" 32 10 0 := ⟨_, _, _, "MeshLines$Packet", ck_10, by decide, w_529, Or.inl rfl⟩
theorem fl_Ho_37 : ev_FL "MeshLines$Home" 37 10 3 := ⟨_, _, _, "MeshLines$Packet", ck_10, by decide, w_537, Or.inl rfl⟩
theorem fl_Ho_50 : ev_FL "MeshLines$Home" 50 10 4 := ⟨_, _, _, "MeshLines$Packet", ck_10, by decide, w_540, Or.inl rfl⟩
theorem fl_Ho_57 : ev_FL "MeshLines$Home" 57 5 6 := ⟨_, _, _, "MeshLines$Home", ck_5, by decide, w_164, Or.inl rfl⟩
theorem fl_Ho_64 : ev_FL "MeshLines$Home" 64 5 5 := ⟨_, _, _, "MeshLines$Home", ck_5, by decide, w_162, Or.inl rfl⟩
theorem fl_La_12 : ev_FL "MeshLines$Lane" 12 2 1 := ⟨_, _, _, "MeshLines$Lane", ck_2, by decide, w_97, Or.inl rfl⟩
theorem fl_La_23 : ev_FL "MeshLines$Lane" 23 2 3 := ⟨_, _, _, "MeshLines$Lane", ck_2, by decide, w_104, Or.inl rfl⟩
theorem fl_La_27 : ev_FL "MeshLines$Lane" 27 2 4 := ⟨_, _, _, "MeshLines$Lane", ck_2, by decide, w_107, Or.inl rfl⟩
theorem fl_La_31 : ev_FL "MeshLines$Lane" 31 2 5 := ⟨_, _, _, "MeshLines$Lane", ck_2, by decide, w_109, Or.inl rfl⟩
theorem fl_La_34 : ev_FL "MeshLines$Lane" 34 2 0 := ⟨_, _, _, "MeshLines$Lane", ck_2, by decide, w_96, Or.inl rfl⟩
theorem fl_La_56 : ev_FL "MeshLines$Lane" 56 2 6 := ⟨_, _, _, "MeshLines$Lane", ck_2, by decide, w_110, Or.inl rfl⟩
theorem fl_La_66 : ev_FL "MeshLines$Lane" 66 9 2 := ⟨_, _, _, "MeshLines$Flit", ck_9, by decide, w_345, Or.inl rfl⟩
theorem fl_La_77 : ev_FL "MeshLines$Lane" 77 9 1 := ⟨_, _, _, "MeshLines$Flit", ck_9, by decide, w_343, Or.inl rfl⟩
theorem fl_La_80 : ev_FL "MeshLines$Lane" 80 9 0 := ⟨_, _, _, "MeshLines$Flit", ck_9, by decide, w_340, Or.inl rfl⟩
theorem fl_La_84 : ev_FL "MeshLines$Lane" 84 10 2 := ⟨_, _, _, "MeshLines$Packet", ck_10, by decide, w_535, Or.inl rfl⟩
theorem fl_Me_11 : ev_FL "MeshLines$Mesh" 11 1 0 := ⟨_, _, _, "MeshLines$Mesh", ck_1, by decide, w_126, Or.inl rfl⟩
theorem fl_Me_17 : ev_FL "MeshLines$Mesh" 17 1 1 := ⟨_, _, _, "MeshLines$Mesh", ck_1, by decide, w_127, Or.inl rfl⟩
theorem fl_Me_37 : ev_FL "MeshLines$Mesh" 37 2 1 := ⟨_, _, _, "MeshLines$Lane", ck_2, by decide, w_98, Or.inl rfl⟩
theorem fl_Me_47 : ev_FL "MeshLines$Mesh" 47 1 2 := ⟨_, _, _, "MeshLines$Mesh", ck_1, by decide, w_128, Or.inl rfl⟩
theorem fl_Me_54 : ev_FL "MeshLines$Mesh" 54 1 3 := ⟨_, _, _, "MeshLines$Mesh", ck_1, by decide, w_130, Or.inl rfl⟩
theorem fl_Me_69 : ev_FL "MeshLines$Mesh" 69 2 3 := ⟨_, _, _, "MeshLines$Lane", ck_2, by decide, w_105, Or.inl rfl⟩
theorem fl_Me_79 : ev_FL "MeshLines$Mesh" 79 9 3 := ⟨_, _, _, "MeshLines$Flit", ck_9, by decide, w_348, Or.inl rfl⟩
theorem fl_Me_100 : ev_FL "MeshLines$Mesh" 100 1 4 := ⟨_, _, _, "MeshLines$Mesh", ck_1, by decide, w_132, Or.inl rfl⟩
theorem fl_Me_106 : ev_FL "MeshLines$Mesh" 106 9 2 := ⟨_, _, _, "MeshLines$Flit", ck_9, by decide, w_346, Or.inl rfl⟩
theorem fl_Me_110 : ev_FL "MeshLines$Mesh" 110 2 2 := ⟨_, _, _, "MeshLines$Lane", ck_2, by decide, w_102, Or.inl rfl⟩
theorem fl_Me_113 : ev_FL "MeshLines$Mesh" 113 9 0 := ⟨_, _, _, "MeshLines$Flit", ck_9, by decide, w_341, Or.inl rfl⟩
theorem fl_No_9 : ev_FL "MeshLines$Node" 9 6 0 := ⟨_, _, _, "MeshLines$Node", ck_6, by decide, w_256, Or.inl rfl⟩
theorem fl_No_15 : ev_FL "MeshLines$Node" 15 6 1 := ⟨_, _, _, "MeshLines$Node", ck_6, by decide, w_257, Or.inl rfl⟩
theorem fl_No_19 : ev_FL "MeshLines$Node" 19 6 2 := ⟨_, _, _, "MeshLines$Node", ck_6, by decide, w_258, Or.inl rfl⟩
theorem fl_No_28 : ev_FL "MeshLines$Node" 28 6 3 := ⟨_, _, _, "MeshLines$Node", ck_6, by decide, w_259, Or.inl rfl⟩
theorem fl_No_37 : ev_FL "MeshLines$Node" 37 6 4 := ⟨_, _, _, "MeshLines$Node", ck_6, by decide, w_261, Or.inl rfl⟩
theorem fl_No_47 : ev_FL "MeshLines$Node" 47 2 2 := ⟨_, _, _, "MeshLines$Lane", ck_2, by decide, w_101, Or.inl rfl⟩
theorem fl_No_76 : ev_FL "MeshLines$Node" 76 10 1 := ⟨_, _, _, "MeshLines$Packet", ck_10, by decide, w_533, Or.inl rfl⟩
theorem fl_Pa_9 : ev_FL "MeshLines$Packet" 9 10 0 := ⟨_, _, _, "MeshLines$Packet", ck_10, by decide, w_528, Or.inl rfl⟩
theorem fl_Mo_7 : ev_FL "MeshLinesModel" 7 11 3 := ⟨_, _, _, "MeshLinesModel", ck_11, by decide, w_681, Or.inl rfl⟩
theorem fl_Mo_13 : ev_FL "MeshLinesModel" 13 11 4 := ⟨_, _, _, "MeshLinesModel", ck_11, by decide, w_682, Or.inl rfl⟩
theorem fl_Mo_17 : ev_FL "MeshLinesModel" 17 11 5 := ⟨_, _, _, "MeshLinesModel", ck_11, by decide, w_683, Or.inl rfl⟩
theorem fl_Mo_20 : ev_FL "MeshLinesModel" 20 11 6 := ⟨_, _, _, "MeshLinesModel", ck_11, by decide, w_684, Or.inl rfl⟩
theorem fl_Mo_23 : ev_FL "MeshLinesModel" 23 11 7 := ⟨_, _, _, "MeshLinesModel", ck_11, by decide, w_685, Or.inl rfl⟩
theorem fl_Mo_26 : ev_FL "MeshLinesModel" 26 11 8 := ⟨_, _, _, "MeshLinesModel", ck_11, by decide, w_686, Or.inl rfl⟩
theorem fl_Mo_29 : ev_FL "MeshLinesModel" 29 11 9 := ⟨_, _, _, "MeshLinesModel", ck_11, by decide, w_687, Or.inl rfl⟩
theorem fl_Mo_32 : ev_FL "MeshLinesModel" 32 11 10 := ⟨_, _, _, "MeshLinesModel", ck_11, by decide, w_688, Or.inl rfl⟩
theorem fl_Mo_35 : ev_FL "MeshLinesModel" 35 11 11 := ⟨_, _, _, "MeshLinesModel", ck_11, by decide, w_689, Or.inl rfl⟩
theorem fl_Mo_38 : ev_FL "MeshLinesModel" 38 11 12 := ⟨_, _, _, "MeshLinesModel", ck_11, by decide, w_690, Or.inl rfl⟩
theorem fl_Mo_41 : ev_FL "MeshLinesModel" 41 11 13 := ⟨_, _, _, "MeshLinesModel", ck_11, by decide, w_691, Or.inl rfl⟩
theorem fl_Mo_44 : ev_FL "MeshLinesModel" 44 11 14 := ⟨_, _, _, "MeshLinesModel", ck_11, by decide, w_692, Or.inl rfl⟩
theorem fl_Mo_47 : ev_FL "MeshLinesModel" 47 11 15 := ⟨_, _, _, "MeshLinesModel", ck_11, by decide, w_693, Or.inl rfl⟩
theorem fl_Mo_50 : ev_FL "MeshLinesModel" 50 11 16 := ⟨_, _, _, "MeshLinesModel", ck_11, by decide, w_694, Or.inl rfl⟩
theorem fl_Mo_53 : ev_FL "MeshLinesModel" 53 11 17 := ⟨_, _, _, "MeshLinesModel", ck_11, by decide, w_695, Or.inl rfl⟩
theorem fl_Mo_56 : ev_FL "MeshLinesModel" 56 11 18 := ⟨_, _, _, "MeshLinesModel", ck_11, by decide, w_696, Or.inl rfl⟩
theorem fl_Mo_59 : ev_FL "MeshLinesModel" 59 11 19 := ⟨_, _, _, "MeshLinesModel", ck_11, by decide, w_697, Or.inl rfl⟩
theorem fl_Mo_62 : ev_FL "MeshLinesModel" 62 11 20 := ⟨_, _, _, "MeshLinesModel", ck_11, by decide, w_698, Or.inl rfl⟩
theorem fl_Mo_65 : ev_FL "MeshLinesModel" 65 11 21 := ⟨_, _, _, "MeshLinesModel", ck_11, by decide, w_699, Or.inl rfl⟩
theorem fl_Mo_68 : ev_FL "MeshLinesModel" 68 11 22 := ⟨_, _, _, "MeshLinesModel", ck_11, by decide, w_700, Or.inl rfl⟩
theorem fl_Mo_71 : ev_FL "MeshLinesModel" 71 11 23 := ⟨_, _, _, "MeshLinesModel", ck_11, by decide, w_701, Or.inl rfl⟩
theorem fl_Mo_74 : ev_FL "MeshLinesModel" 74 11 24 := ⟨_, _, _, "MeshLinesModel", ck_11, by decide, w_702, Or.inl rfl⟩
theorem fl_Mo_77 : ev_FL "MeshLinesModel" 77 11 25 := ⟨_, _, _, "MeshLinesModel", ck_11, by decide, w_703, Or.inl rfl⟩
theorem fl_Mo_80 : ev_FL "MeshLinesModel" 80 11 26 := ⟨_, _, _, "MeshLinesModel", ck_11, by decide, w_704, Or.inl rfl⟩
theorem fl_Mo_83 : ev_FL "MeshLinesModel" 83 11 27 := ⟨_, _, _, "MeshLinesModel", ck_11, by decide, w_705, Or.inl rfl⟩
theorem fl_Mo_86 : ev_FL "MeshLinesModel" 86 11 28 := ⟨_, _, _, "MeshLinesModel", ck_11, by decide, w_706, Or.inl rfl⟩
theorem fl_Mo_89 : ev_FL "MeshLinesModel" 89 11 29 := ⟨_, _, _, "MeshLinesModel", ck_11, by decide, w_707, Or.inl rfl⟩
theorem fl_Mo_92 : ev_FL "MeshLinesModel" 92 11 30 := ⟨_, _, _, "MeshLinesModel", ck_11, by decide, w_708, Or.inl rfl⟩
theorem fl_Mo_95 : ev_FL "MeshLinesModel" 95 11 31 := ⟨_, _, _, "MeshLinesModel", ck_11, by decide, w_709, Or.inl rfl⟩
theorem fl_Mo_98 : ev_FL "MeshLinesModel" 98 11 32 := ⟨_, _, _, "MeshLinesModel", ck_11, by decide, w_710, Or.inl rfl⟩
theorem fl_Mo_101 : ev_FL "MeshLinesModel" 101 11 33 := ⟨_, _, _, "MeshLinesModel", ck_11, by decide, w_711, Or.inl rfl⟩
theorem fl_Mo_104 : ev_FL "MeshLinesModel" 104 11 34 := ⟨_, _, _, "MeshLinesModel", ck_11, by decide, w_712, Or.inl rfl⟩
theorem fl_Mo_107 : ev_FL "MeshLinesModel" 107 11 35 := ⟨_, _, _, "MeshLinesModel", ck_11, by decide, w_713, Or.inl rfl⟩
theorem fl_Mo_110 : ev_FL "MeshLinesModel" 110 11 36 := ⟨_, _, _, "MeshLinesModel", ck_11, by decide, w_714, Or.inl rfl⟩
theorem fl_Mo_113 : ev_FL "MeshLinesModel" 113 11 37 := ⟨_, _, _, "MeshLinesModel", ck_11, by decide, w_715, Or.inl rfl⟩
theorem fl_Mo_116 : ev_FL "MeshLinesModel" 116 11 0 := ⟨_, _, _, "MeshLinesModel", ck_11, by decide, w_678, Or.inl rfl⟩
theorem fl_Mo_120 : ev_FL "MeshLinesModel" 120 11 1 := ⟨_, _, _, "MeshLinesModel", ck_11, by decide, w_679, Or.inl rfl⟩
theorem fl_Mo_127 : ev_FL "MeshLinesModel" 127 11 38 := ⟨_, _, _, "MeshLinesModel", ck_11, by decide, w_716, Or.inl rfl⟩
theorem fl_Mo_130 : ev_FL "MeshLinesModel" 130 11 2 := ⟨_, _, _, "MeshLinesModel", ck_11, by decide, w_680, Or.inl rfl⟩
theorem fl_Mo_155 : ev_FL "MeshLinesModel" 155 11 40 := ⟨_, _, _, "MeshLinesModel", ck_11, by decide, w_718, Or.inl rfl⟩
theorem fl_Mo_158 : ev_FL "MeshLinesModel" 158 11 39 := ⟨_, _, _, "MeshLinesModel", ck_11, by decide, w_717, Or.inl rfl⟩
theorem fl_AL_9 : ev_FL "java/util/ArrayList" 9 3 0 := ⟨_, _, _, "java/util/ArrayList", ck_3, by decide, w_66, Or.inl rfl⟩
theorem fl_AL_48 : ev_FL "java/util/ArrayList" 48 3 1 := ⟨_, _, _, "java/util/ArrayList", ck_3, by decide, w_67, Or.inl rfl⟩
theorem fl_AL_63 : ev_FL "java/util/ArrayList" 63 3 2 := ⟨_, _, _, "java/util/ArrayList", ck_3, by decide, w_69, Or.inr w_70⟩
theorem fw_ML_i_18 : ev_FW "MeshLines" "<init>" 18 0 0 := ⟨_, _, _, "MeshLines", ck_0, by decide, w_274, Or.inl rfl, Or.inr ⟨rfl, rfl, rfl⟩⟩
theorem fw_ML_i_24 : ev_FW "MeshLines" "<init>" 24 0 1 := ⟨_, _, _, "MeshLines", ck_0, by decide, w_275, Or.inl rfl, Or.inr ⟨rfl, rfl, rfl⟩⟩
theorem fw_ML_i_33 : ev_FW "MeshLines" "<init>" 33 0 2 := ⟨_, _, _, "MeshLines", ck_0, by decide, w_276, Or.inl rfl, Or.inr ⟨rfl, rfl, rfl⟩⟩
theorem fw_ML_run_54 : ev_FW "MeshLines" "run" 54 0 3 := ⟨_, _, _, "MeshLines", ck_0, by decide, w_277, Or.inl rfl, Or.inl rfl⟩
theorem fw_Ca_i_9 : ev_FW "MeshLines$Cache" "<init>" 9 7 2 := ⟨_, _, _, "MeshLines$Cache", ck_7, by decide, w_196, Or.inl rfl, Or.inr ⟨rfl, rfl, rfl⟩⟩
theorem fw_Ca_i_15 : ev_FW "MeshLines$Cache" "<init>" 15 7 3 := ⟨_, _, _, "MeshLines$Cache", ck_7, by decide, w_199, Or.inl rfl, Or.inr ⟨rfl, rfl, rfl⟩⟩
theorem fw_Ca_i_18 : ev_FW "MeshLines$Cache" "<init>" 18 7 4 := ⟨_, _, _, "MeshLines$Cache", ck_7, by decide, w_202, Or.inl rfl, Or.inr ⟨rfl, rfl, rfl⟩⟩
theorem fw_Ca_i_21 : ev_FW "MeshLines$Cache" "<init>" 21 7 5 := ⟨_, _, _, "MeshLines$Cache", ck_7, by decide, w_204, Or.inl rfl, Or.inr ⟨rfl, rfl, rfl⟩⟩
theorem fw_Ca_i_24 : ev_FW "MeshLines$Cache" "<init>" 24 7 0 := ⟨_, _, _, "MeshLines$Cache", ck_7, by decide, w_194, Or.inl rfl, Or.inr ⟨rfl, rfl, rfl⟩⟩
theorem fw_Ca_i_28 : ev_FW "MeshLines$Cache" "<init>" 28 7 1 := ⟨_, _, _, "MeshLines$Cache", ck_7, by decide, w_195, Or.inl rfl, Or.inr ⟨rfl, rfl, rfl⟩⟩
theorem fw_Co_i_9 : ev_FW "MeshLines$Core" "<init>" 9 8 1 := ⟨_, _, _, "MeshLines$Core", ck_8, by decide, w_227, Or.inl rfl, Or.inr ⟨rfl, rfl, rfl⟩⟩
theorem fw_Co_i_15 : ev_FW "MeshLines$Core" "<init>" 15 8 2 := ⟨_, _, _, "MeshLines$Core", ck_8, by decide, w_228, Or.inl rfl, Or.inr ⟨rfl, rfl, rfl⟩⟩
theorem fw_Co_i_18 : ev_FW "MeshLines$Core" "<init>" 18 8 3 := ⟨_, _, _, "MeshLines$Core", ck_8, by decide, w_229, Or.inl rfl, Or.inr ⟨rfl, rfl, rfl⟩⟩
theorem fw_Co_i_21 : ev_FW "MeshLines$Core" "<init>" 21 8 4 := ⟨_, _, _, "MeshLines$Core", ck_8, by decide, w_230, Or.inl rfl, Or.inr ⟨rfl, rfl, rfl⟩⟩
theorem fw_Co_i_24 : ev_FW "MeshLines$Core" "<init>" 24 8 5 := ⟨_, _, _, "MeshLines$Core", ck_8, by decide, w_231, Or.inl rfl, Or.inr ⟨rfl, rfl, rfl⟩⟩
theorem fw_Co_i_27 : ev_FW "MeshLines$Core" "<init>" 27 8 0 := ⟨_, _, _, "MeshLines$Core", ck_8, by decide, w_226, Or.inl rfl, Or.inr ⟨rfl, rfl, rfl⟩⟩
theorem fw_Co_append_31 : ev_FW "MeshLines$Core" "append" 31 8 6 := ⟨_, _, _, "MeshLines$Core", ck_8, by decide, w_233, Or.inl rfl, Or.inl rfl⟩
theorem fw_Co_finishPresent_35 : ev_FW "MeshLines$Core" "finishPresent" 35 8 7 := ⟨_, _, _, "MeshLines$Core", ck_8, by decide, w_234, Or.inl rfl, Or.inl rfl⟩
theorem fw_Co_finishPresent_38 : ev_FW "MeshLines$Core" "finishPresent" 38 8 8 := ⟨_, _, _, "MeshLines$Core", ck_8, by decide, w_236, Or.inl rfl, Or.inl rfl⟩
theorem fw_Fl_i_7 : ev_FW "MeshLines$Flit" "<init>" 7 9 0 := ⟨_, _, _, "MeshLines$Flit", ck_9, by decide, w_339, Or.inl rfl, Or.inr ⟨rfl, rfl, rfl⟩⟩
theorem fw_Fl_i_13 : ev_FW "MeshLines$Flit" "<init>" 13 9 1 := ⟨_, _, _, "MeshLines$Flit", ck_9, by decide, w_342, Or.inl rfl, Or.inr ⟨rfl, rfl, rfl⟩⟩
theorem fw_Fl_i_23 : ev_FW "MeshLines$Flit" "<init>" 23 9 2 := ⟨_, _, _, "MeshLines$Flit", ck_9, by decide, w_344, Or.inl rfl, Or.inr ⟨rfl, rfl, rfl⟩⟩
theorem fw_FB_i_9 : ev_FW "MeshLines$FlitBuffer" "<init>" 9 4 0 := ⟨_, _, _, "MeshLines$FlitBuffer", ck_4, by decide, w_87, Or.inl rfl, Or.inr ⟨rfl, rfl, rfl⟩⟩
theorem fw_FB_dropFront_15 : ev_FW "MeshLines$FlitBuffer" "dropFront" 15 4 1 := ⟨_, _, _, "MeshLines$FlitBuffer", ck_4, by decide, w_88, Or.inl rfl, Or.inl rfl⟩
theorem fw_FB_put_15 : ev_FW "MeshLines$FlitBuffer" "put" 15 4 1 := ⟨_, _, _, "MeshLines$FlitBuffer", ck_4, by decide, w_88, Or.inl rfl, Or.inl rfl⟩
theorem fw_FB_put_23 : ev_FW "MeshLines$FlitBuffer" "put" 23 9 3 := ⟨_, _, _, "MeshLines$Flit", ck_9, by decide, w_347, Or.inl rfl, Or.inl rfl⟩
theorem fw_Ho_i_11 : ev_FW "MeshLines$Home" "<init>" 11 5 3 := ⟨_, _, _, "MeshLines$Home", ck_5, by decide, w_158, Or.inl rfl, Or.inl rfl⟩
theorem fw_Ho_i_15 : ev_FW "MeshLines$Home" "<init>" 15 5 4 := ⟨_, _, _, "MeshLines$Home", ck_5, by decide, w_160, Or.inl rfl, Or.inl rfl⟩
theorem fw_Ho_i_18 : ev_FW "MeshLines$Home" "<init>" 18 5 0 := ⟨_, _, _, "MeshLines$Home", ck_5, by decide, w_155, Or.inl rfl, Or.inr ⟨rfl, rfl, rfl⟩⟩
theorem fw_Ho_i_25 : ev_FW "MeshLines$Home" "<init>" 25 5 1 := ⟨_, _, _, "MeshLines$Home", ck_5, by decide, w_156, Or.inl rfl, Or.inr ⟨rfl, rfl, rfl⟩⟩
theorem fw_Ho_i_28 : ev_FW "MeshLines$Home" "<init>" 28 5 2 := ⟨_, _, _, "MeshLines$Home", ck_5, by decide, w_157, Or.inl rfl, Or.inr ⟨rfl, rfl, rfl⟩⟩
theorem fw_Ho_dropSharer_11 : ev_FW "MeshLines$Home" "dropSharer" 11 5 3 := ⟨_, _, _, "MeshLines$Home", ck_5, by decide, w_158, Or.inl rfl, Or.inl rfl⟩
theorem fw_Ho_dropSharer_64 : ev_FW "MeshLines$Home" "dropSharer" 64 5 5 := ⟨_, _, _, "MeshLines$Home", ck_5, by decide, w_162, Or.inl rfl, Or.inl rfl⟩
theorem fw_Ho_take_11 : ev_FW "MeshLines$Home" "take" 11 5 3 := ⟨_, _, _, "MeshLines$Home", ck_5, by decide, w_158, Or.inl rfl, Or.inl rfl⟩
theorem fw_Ho_take_57 : ev_FW "MeshLines$Home" "take" 57 5 6 := ⟨_, _, _, "MeshLines$Home", ck_5, by decide, w_164, Or.inl rfl, Or.inl rfl⟩
theorem fw_Ho_takeGetm_11 : ev_FW "MeshLines$Home" "takeGetm" 11 5 3 := ⟨_, _, _, "MeshLines$Home", ck_5, by decide, w_158, Or.inl rfl, Or.inl rfl⟩
theorem fw_Ho_takeGetm_15 : ev_FW "MeshLines$Home" "takeGetm" 15 5 4 := ⟨_, _, _, "MeshLines$Home", ck_5, by decide, w_160, Or.inl rfl, Or.inl rfl⟩
theorem fw_Ho_takeGetm_64 : ev_FW "MeshLines$Home" "takeGetm" 64 5 5 := ⟨_, _, _, "MeshLines$Home", ck_5, by decide, w_162, Or.inl rfl, Or.inl rfl⟩
theorem fw_Ho_takeGets_11 : ev_FW "MeshLines$Home" "takeGets" 11 5 3 := ⟨_, _, _, "MeshLines$Home", ck_5, by decide, w_158, Or.inl rfl, Or.inl rfl⟩
theorem fw_Ho_takeGets_15 : ev_FW "MeshLines$Home" "takeGets" 15 5 4 := ⟨_, _, _, "MeshLines$Home", ck_5, by decide, w_160, Or.inl rfl, Or.inl rfl⟩
theorem fw_Ho_takeGets_64 : ev_FW "MeshLines$Home" "takeGets" 64 5 5 := ⟨_, _, _, "MeshLines$Home", ck_5, by decide, w_162, Or.inl rfl, Or.inl rfl⟩
theorem fw_Ho_takePutm_11 : ev_FW "MeshLines$Home" "takePutm" 11 5 3 := ⟨_, _, _, "MeshLines$Home", ck_5, by decide, w_158, Or.inl rfl, Or.inl rfl⟩
theorem fw_Ho_takePutm_15 : ev_FW "MeshLines$Home" "takePutm" 15 5 4 := ⟨_, _, _, "MeshLines$Home", ck_5, by decide, w_160, Or.inl rfl, Or.inl rfl⟩
theorem fw_Ho_takePutm_57 : ev_FW "MeshLines$Home" "takePutm" 57 5 6 := ⟨_, _, _, "MeshLines$Home", ck_5, by decide, w_164, Or.inl rfl, Or.inl rfl⟩
theorem fw_La_i_12 : ev_FW "MeshLines$Lane" "<init>" 12 2 1 := ⟨_, _, _, "MeshLines$Lane", ck_2, by decide, w_97, Or.inl rfl, Or.inr ⟨rfl, rfl, rfl⟩⟩
theorem fw_La_i_18 : ev_FW "MeshLines$Lane" "<init>" 18 2 2 := ⟨_, _, _, "MeshLines$Lane", ck_2, by decide, w_100, Or.inl rfl, Or.inr ⟨rfl, rfl, rfl⟩⟩
theorem fw_La_i_23 : ev_FW "MeshLines$Lane" "<init>" 23 2 3 := ⟨_, _, _, "MeshLines$Lane", ck_2, by decide, w_104, Or.inl rfl, Or.inr ⟨rfl, rfl, rfl⟩⟩
theorem fw_La_i_27 : ev_FW "MeshLines$Lane" "<init>" 27 2 4 := ⟨_, _, _, "MeshLines$Lane", ck_2, by decide, w_107, Or.inl rfl, Or.inr ⟨rfl, rfl, rfl⟩⟩
theorem fw_La_i_31 : ev_FW "MeshLines$Lane" "<init>" 31 2 5 := ⟨_, _, _, "MeshLines$Lane", ck_2, by decide, w_109, Or.inl rfl, Or.inr ⟨rfl, rfl, rfl⟩⟩
theorem fw_La_i_34 : ev_FW "MeshLines$Lane" "<init>" 34 2 0 := ⟨_, _, _, "MeshLines$Lane", ck_2, by decide, w_96, Or.inl rfl, Or.inr ⟨rfl, rfl, rfl⟩⟩
theorem fw_La_enterFlit_56 : ev_FW "MeshLines$Lane" "enterFlit" 56 2 6 := ⟨_, _, _, "MeshLines$Lane", ck_2, by decide, w_110, Or.inl rfl, Or.inl rfl⟩
theorem fw_Me_i_11 : ev_FW "MeshLines$Mesh" "<init>" 11 1 0 := ⟨_, _, _, "MeshLines$Mesh", ck_1, by decide, w_126, Or.inl rfl, Or.inr ⟨rfl, rfl, rfl⟩⟩
theorem fw_Me_i_17 : ev_FW "MeshLines$Mesh" "<init>" 17 1 1 := ⟨_, _, _, "MeshLines$Mesh", ck_1, by decide, w_127, Or.inl rfl, Or.inr ⟨rfl, rfl, rfl⟩⟩
theorem fw_Me_leaveMesh_54 : ev_FW "MeshLines$Mesh" "leaveMesh" 54 1 3 := ⟨_, _, _, "MeshLines$Mesh", ck_1, by decide, w_130, Or.inl rfl, Or.inl rfl⟩
theorem fw_Me_moveFlitOf_100 : ev_FW "MeshLines$Mesh" "moveFlitOf" 100 1 4 := ⟨_, _, _, "MeshLines$Mesh", ck_1, by decide, w_132, Or.inl rfl, Or.inl rfl⟩
theorem fw_Me_send_47 : ev_FW "MeshLines$Mesh" "send" 47 1 2 := ⟨_, _, _, "MeshLines$Mesh", ck_1, by decide, w_128, Or.inl rfl, Or.inl rfl⟩
theorem fw_No_i_9 : ev_FW "MeshLines$Node" "<init>" 9 6 0 := ⟨_, _, _, "MeshLines$Node", ck_6, by decide, w_256, Or.inl rfl, Or.inr ⟨rfl, rfl, rfl⟩⟩
theorem fw_No_i_15 : ev_FW "MeshLines$Node" "<init>" 15 6 1 := ⟨_, _, _, "MeshLines$Node", ck_6, by decide, w_257, Or.inl rfl, Or.inr ⟨rfl, rfl, rfl⟩⟩
theorem fw_No_i_19 : ev_FW "MeshLines$Node" "<init>" 19 6 2 := ⟨_, _, _, "MeshLines$Node", ck_6, by decide, w_258, Or.inl rfl, Or.inr ⟨rfl, rfl, rfl⟩⟩
theorem fw_No_i_28 : ev_FW "MeshLines$Node" "<init>" 28 6 3 := ⟨_, _, _, "MeshLines$Node", ck_6, by decide, w_259, Or.inl rfl, Or.inr ⟨rfl, rfl, rfl⟩⟩
theorem fw_No_i_37 : ev_FW "MeshLines$Node" "<init>" 37 6 4 := ⟨_, _, _, "MeshLines$Node", ck_6, by decide, w_261, Or.inl rfl, Or.inr ⟨rfl, rfl, rfl⟩⟩
theorem fw_Pa_i_9 : ev_FW "MeshLines$Packet" "<init>" 9 10 0 := ⟨_, _, _, "MeshLines$Packet", ck_10, by decide, w_528, Or.inl rfl, Or.inr ⟨rfl, rfl, rfl⟩⟩
theorem fw_Pa_i_15 : ev_FW "MeshLines$Packet" "<init>" 15 10 1 := ⟨_, _, _, "MeshLines$Packet", ck_10, by decide, w_531, Or.inl rfl, Or.inr ⟨rfl, rfl, rfl⟩⟩
theorem fw_Pa_i_18 : ev_FW "MeshLines$Packet" "<init>" 18 10 2 := ⟨_, _, _, "MeshLines$Packet", ck_10, by decide, w_534, Or.inl rfl, Or.inr ⟨rfl, rfl, rfl⟩⟩
theorem fw_Pa_i_21 : ev_FW "MeshLines$Packet" "<init>" 21 10 3 := ⟨_, _, _, "MeshLines$Packet", ck_10, by decide, w_536, Or.inl rfl, Or.inr ⟨rfl, rfl, rfl⟩⟩
theorem fw_Pa_i_24 : ev_FW "MeshLines$Packet" "<init>" 24 10 4 := ⟨_, _, _, "MeshLines$Packet", ck_10, by decide, w_539, Or.inl rfl, Or.inr ⟨rfl, rfl, rfl⟩⟩
theorem fw_Pa_i_27 : ev_FW "MeshLines$Packet" "<init>" 27 10 5 := ⟨_, _, _, "MeshLines$Packet", ck_10, by decide, w_542, Or.inl rfl, Or.inr ⟨rfl, rfl, rfl⟩⟩
theorem fw_Pa_i_30 : ev_FW "MeshLines$Packet" "<init>" 30 10 6 := ⟨_, _, _, "MeshLines$Packet", ck_10, by decide, w_545, Or.inl rfl, Or.inr ⟨rfl, rfl, rfl⟩⟩
theorem fw_Mo_i_7 : ev_FW "MeshLinesModel" "<init>" 7 11 3 := ⟨_, _, _, "MeshLinesModel", ck_11, by decide, w_681, Or.inl rfl, Or.inl rfl⟩
theorem fw_Mo_i_13 : ev_FW "MeshLinesModel" "<init>" 13 11 4 := ⟨_, _, _, "MeshLinesModel", ck_11, by decide, w_682, Or.inl rfl, Or.inl rfl⟩
theorem fw_Mo_i_17 : ev_FW "MeshLinesModel" "<init>" 17 11 5 := ⟨_, _, _, "MeshLinesModel", ck_11, by decide, w_683, Or.inl rfl, Or.inl rfl⟩
theorem fw_Mo_i_20 : ev_FW "MeshLinesModel" "<init>" 20 11 6 := ⟨_, _, _, "MeshLinesModel", ck_11, by decide, w_684, Or.inl rfl, Or.inl rfl⟩
theorem fw_Mo_i_23 : ev_FW "MeshLinesModel" "<init>" 23 11 7 := ⟨_, _, _, "MeshLinesModel", ck_11, by decide, w_685, Or.inl rfl, Or.inl rfl⟩
theorem fw_Mo_i_26 : ev_FW "MeshLinesModel" "<init>" 26 11 8 := ⟨_, _, _, "MeshLinesModel", ck_11, by decide, w_686, Or.inl rfl, Or.inl rfl⟩
theorem fw_Mo_i_29 : ev_FW "MeshLinesModel" "<init>" 29 11 9 := ⟨_, _, _, "MeshLinesModel", ck_11, by decide, w_687, Or.inl rfl, Or.inl rfl⟩
theorem fw_Mo_i_32 : ev_FW "MeshLinesModel" "<init>" 32 11 10 := ⟨_, _, _, "MeshLinesModel", ck_11, by decide, w_688, Or.inl rfl, Or.inl rfl⟩
theorem fw_Mo_i_35 : ev_FW "MeshLinesModel" "<init>" 35 11 11 := ⟨_, _, _, "MeshLinesModel", ck_11, by decide, w_689, Or.inl rfl, Or.inl rfl⟩
theorem fw_Mo_i_38 : ev_FW "MeshLinesModel" "<init>" 38 11 12 := ⟨_, _, _, "MeshLinesModel", ck_11, by decide, w_690, Or.inl rfl, Or.inl rfl⟩
theorem fw_Mo_i_41 : ev_FW "MeshLinesModel" "<init>" 41 11 13 := ⟨_, _, _, "MeshLinesModel", ck_11, by decide, w_691, Or.inl rfl, Or.inl rfl⟩
theorem fw_Mo_i_44 : ev_FW "MeshLinesModel" "<init>" 44 11 14 := ⟨_, _, _, "MeshLinesModel", ck_11, by decide, w_692, Or.inl rfl, Or.inl rfl⟩
theorem fw_Mo_i_47 : ev_FW "MeshLinesModel" "<init>" 47 11 15 := ⟨_, _, _, "MeshLinesModel", ck_11, by decide, w_693, Or.inl rfl, Or.inl rfl⟩
theorem fw_Mo_i_50 : ev_FW "MeshLinesModel" "<init>" 50 11 16 := ⟨_, _, _, "MeshLinesModel", ck_11, by decide, w_694, Or.inl rfl, Or.inl rfl⟩
theorem fw_Mo_i_53 : ev_FW "MeshLinesModel" "<init>" 53 11 17 := ⟨_, _, _, "MeshLinesModel", ck_11, by decide, w_695, Or.inl rfl, Or.inl rfl⟩
theorem fw_Mo_i_56 : ev_FW "MeshLinesModel" "<init>" 56 11 18 := ⟨_, _, _, "MeshLinesModel", ck_11, by decide, w_696, Or.inl rfl, Or.inl rfl⟩
theorem fw_Mo_i_59 : ev_FW "MeshLinesModel" "<init>" 59 11 19 := ⟨_, _, _, "MeshLinesModel", ck_11, by decide, w_697, Or.inl rfl, Or.inl rfl⟩
theorem fw_Mo_i_62 : ev_FW "MeshLinesModel" "<init>" 62 11 20 := ⟨_, _, _, "MeshLinesModel", ck_11, by decide, w_698, Or.inl rfl, Or.inl rfl⟩
theorem fw_Mo_i_65 : ev_FW "MeshLinesModel" "<init>" 65 11 21 := ⟨_, _, _, "MeshLinesModel", ck_11, by decide, w_699, Or.inl rfl, Or.inl rfl⟩
theorem fw_Mo_i_68 : ev_FW "MeshLinesModel" "<init>" 68 11 22 := ⟨_, _, _, "MeshLinesModel", ck_11, by decide, w_700, Or.inl rfl, Or.inl rfl⟩
theorem fw_Mo_i_71 : ev_FW "MeshLinesModel" "<init>" 71 11 23 := ⟨_, _, _, "MeshLinesModel", ck_11, by decide, w_701, Or.inl rfl, Or.inl rfl⟩
theorem fw_Mo_i_74 : ev_FW "MeshLinesModel" "<init>" 74 11 24 := ⟨_, _, _, "MeshLinesModel", ck_11, by decide, w_702, Or.inl rfl, Or.inl rfl⟩
theorem fw_Mo_i_77 : ev_FW "MeshLinesModel" "<init>" 77 11 25 := ⟨_, _, _, "MeshLinesModel", ck_11, by decide, w_703, Or.inl rfl, Or.inl rfl⟩
theorem fw_Mo_i_80 : ev_FW "MeshLinesModel" "<init>" 80 11 26 := ⟨_, _, _, "MeshLinesModel", ck_11, by decide, w_704, Or.inl rfl, Or.inl rfl⟩
theorem fw_Mo_i_83 : ev_FW "MeshLinesModel" "<init>" 83 11 27 := ⟨_, _, _, "MeshLinesModel", ck_11, by decide, w_705, Or.inl rfl, Or.inl rfl⟩
theorem fw_Mo_i_86 : ev_FW "MeshLinesModel" "<init>" 86 11 28 := ⟨_, _, _, "MeshLinesModel", ck_11, by decide, w_706, Or.inl rfl, Or.inl rfl⟩
theorem fw_Mo_i_89 : ev_FW "MeshLinesModel" "<init>" 89 11 29 := ⟨_, _, _, "MeshLinesModel", ck_11, by decide, w_707, Or.inl rfl, Or.inl rfl⟩
theorem fw_Mo_i_92 : ev_FW "MeshLinesModel" "<init>" 92 11 30 := ⟨_, _, _, "MeshLinesModel", ck_11, by decide, w_708, Or.inl rfl, Or.inl rfl⟩
theorem fw_Mo_i_95 : ev_FW "MeshLinesModel" "<init>" 95 11 31 := ⟨_, _, _, "MeshLinesModel", ck_11, by decide, w_709, Or.inl rfl, Or.inl rfl⟩
theorem fw_Mo_i_98 : ev_FW "MeshLinesModel" "<init>" 98 11 32 := ⟨_, _, _, "MeshLinesModel", ck_11, by decide, w_710, Or.inl rfl, Or.inl rfl⟩
theorem fw_Mo_i_101 : ev_FW "MeshLinesModel" "<init>" 101 11 33 := ⟨_, _, _, "MeshLinesModel", ck_11, by decide, w_711, Or.inl rfl, Or.inl rfl⟩
theorem fw_Mo_i_104 : ev_FW "MeshLinesModel" "<init>" 104 11 34 := ⟨_, _, _, "MeshLinesModel", ck_11, by decide, w_712, Or.inl rfl, Or.inl rfl⟩
theorem fw_Mo_i_107 : ev_FW "MeshLinesModel" "<init>" 107 11 35 := ⟨_, _, _, "MeshLinesModel", ck_11, by decide, w_713, Or.inl rfl, Or.inl rfl⟩
theorem fw_Mo_i_110 : ev_FW "MeshLinesModel" "<init>" 110 11 36 := ⟨_, _, _, "MeshLinesModel", ck_11, by decide, w_714, Or.inl rfl, Or.inl rfl⟩
theorem fw_Mo_i_113 : ev_FW "MeshLinesModel" "<init>" 113 11 37 := ⟨_, _, _, "MeshLinesModel", ck_11, by decide, w_715, Or.inl rfl, Or.inl rfl⟩
theorem fw_Mo_i_116 : ev_FW "MeshLinesModel" "<init>" 116 11 0 := ⟨_, _, _, "MeshLinesModel", ck_11, by decide, w_678, Or.inl rfl, Or.inr ⟨rfl, rfl, rfl⟩⟩
theorem fw_Mo_i_120 : ev_FW "MeshLinesModel" "<init>" 120 11 1 := ⟨_, _, _, "MeshLinesModel", ck_11, by decide, w_679, Or.inl rfl, Or.inr ⟨rfl, rfl, rfl⟩⟩
theorem fw_Mo_moves_155 : ev_FW "MeshLinesModel" "moves" 155 11 40 := ⟨_, _, _, "MeshLinesModel", ck_11, by decide, w_718, Or.inl rfl, Or.inl rfl⟩
theorem fw_Mo_moves_158 : ev_FW "MeshLinesModel" "moves" 158 11 39 := ⟨_, _, _, "MeshLinesModel", ck_11, by decide, w_717, Or.inl rfl, Or.inl rfl⟩
theorem fw_Mo_oneCycle_130 : ev_FW "MeshLinesModel" "oneCycle" 130 11 2 := ⟨_, _, _, "MeshLinesModel", ck_11, by decide, w_680, Or.inl rfl, Or.inl rfl⟩
theorem fw_Mo_send_127 : ev_FW "MeshLinesModel" "send" 127 11 38 := ⟨_, _, _, "MeshLinesModel", ck_11, by decide, w_716, Or.inl rfl, Or.inl rfl⟩
theorem fw_AL_i_9 : ev_FW "java/util/ArrayList" "<init>" 9 3 0 := ⟨_, _, _, "java/util/ArrayList", ck_3, by decide, w_66, Or.inl rfl, Or.inl rfl⟩
theorem fw_AL_add_48 : ev_FW "java/util/ArrayList" "add" 48 3 1 := ⟨_, _, _, "java/util/ArrayList", ck_3, by decide, w_67, Or.inl rfl, Or.inl rfl⟩
theorem fw_AL_add_63 : ev_FW "java/util/ArrayList" "add" 63 3 2 := ⟨_, _, _, "java/util/ArrayList", ck_3, by decide, w_69, Or.inr w_70, Or.inl rfl⟩
theorem fw_AL_fastRemove_48 : ev_FW "java/util/ArrayList" "fastRemove" 48 3 1 := ⟨_, _, _, "java/util/ArrayList", ck_3, by decide, w_67, Or.inl rfl, Or.inl rfl⟩
theorem fw_AL_fastRemove_63 : ev_FW "java/util/ArrayList" "fastRemove" 63 3 2 := ⟨_, _, _, "java/util/ArrayList", ck_3, by decide, w_69, Or.inr w_70, Or.inl rfl⟩
theorem fw_AL_grow_9 : ev_FW "java/util/ArrayList" "grow" 9 3 0 := ⟨_, _, _, "java/util/ArrayList", ck_3, by decide, w_66, Or.inl rfl, Or.inl rfl⟩
theorem cb_ML_nearest : ev_CB M_ML_nearest 3 := ⟨w_34, w_1, ⟨by decide, by decide, by decide +kernel⟩, by decide, by decide +kernel⟩
theorem cb_Me_init : ev_CB M_Me_init 2 := ⟨w_43, w_2, ⟨by decide, by decide, by decide +kernel⟩, by decide, by decide +kernel⟩
theorem cb_Ho_init : ev_CB M_Ho_init 2 := ⟨w_150, w_9, ⟨by decide, by decide, by decide +kernel⟩, by decide, by decide +kernel⟩
theorem cb_No_init : ev_CB M_No_init 3 := ⟨w_186, w_10, ⟨by decide, by decide, by decide +kernel⟩, by decide, by decide +kernel⟩
theorem cb_ML_isBelow : ev_CB M_ML_isBelow 2 := ⟨w_293, w_1, ⟨by decide, by decide, by decide +kernel⟩, by decide, by decide +kernel⟩
theorem cb_Co_append : ev_CB M_Co_append 4 := ⟨w_297, w_12, ⟨by decide, by decide, by decide +kernel⟩, by decide, by decide +kernel⟩
theorem cb_Me_enterFlits : ev_CB M_Me_enterFlits 1 := ⟨w_305, w_2, ⟨by decide, by decide, by decide +kernel⟩, by decide, by decide +kernel⟩
theorem cb_Me_moveFlits : ev_CB M_Me_moveFlits 1 := ⟨w_377, w_2, ⟨by decide, by decide, by decide +kernel⟩, by decide, by decide +kernel⟩
theorem cb_No_takePackets : ev_CB M_No_takePackets 1 := ⟨w_477, w_10, ⟨by decide, by decide, by decide +kernel⟩, by decide, by decide +kernel⟩
theorem cb_Co_act : ev_CB M_Co_act 1 := ⟨w_620, w_12, ⟨by decide, by decide, by decide +kernel⟩, by decide, by decide +kernel⟩
theorem cb_Me_laneOf : ev_CB M_Me_laneOf 2 := ⟨w_389, w_2, ⟨by decide, by decide, by decide +kernel⟩, by decide, by decide +kernel⟩
theorem cb_AL_size : ev_CB M_AL_size 0 := ⟨w_486, w_7, ⟨by decide, by decide, by decide +kernel⟩, by decide, by decide +kernel⟩
theorem cb_Ma_min : ev_CB M_Ma_min 2 := ⟨w_37, w_3, ⟨by decide, by decide, by decide +kernel⟩, by decide, by decide +kernel⟩
theorem cb_Ma_max : ev_CB M_Ma_max 2 := ⟨w_40, w_3, ⟨by decide, by decide, by decide +kernel⟩, by decide, by decide +kernel⟩
theorem cb_Ca_takeData : ev_CB M_Ca_takeData 1 := ⟨w_594, w_11, ⟨by decide, by decide, by decide +kernel⟩, by decide, by decide +kernel⟩
theorem cb_Ca_takeAck : ev_CB M_Ca_takeAck 1 := ⟨w_598, w_11, ⟨by decide, by decide, by decide +kernel⟩, by decide, by decide +kernel⟩
theorem cb_Ca_takeInv : ev_CB M_Ca_takeInv 1 := ⟨w_602, w_11, ⟨by decide, by decide, by decide +kernel⟩, by decide, by decide +kernel⟩
theorem cb_Ca_become : ev_CB M_Ca_become 2 := ⟨w_606, w_11, ⟨by decide, by decide, by decide +kernel⟩, by decide, by decide +kernel⟩
theorem cb_Ca_giveData : ev_CB M_Ca_giveData 3 := ⟨w_611, w_11, ⟨by decide, by decide, by decide +kernel⟩, by decide, by decide +kernel⟩
theorem cb_ML_homeOf : ev_CB M_ML_homeOf 1 := ⟨w_154, w_1, ⟨by decide, by decide, by decide +kernel⟩, by decide, by decide +kernel⟩
theorem cb_Me_send : ev_CB M_Me_send 7 := ⟨w_521, w_2, ⟨by decide, by decide, by decide +kernel⟩, by decide, by decide +kernel⟩
theorem cb_Ca_ask : ev_CB M_Ca_ask 3 := ⟨w_625, w_11, ⟨by decide, by decide, by decide +kernel⟩, by decide, by decide +kernel⟩
theorem cb_Co_finishPresent : ev_CB M_Co_finishPresent 1 := ⟨w_616, w_12, ⟨by decide, by decide, by decide +kernel⟩, by decide, by decide +kernel⟩
theorem cb_Co_fetch : ev_CB M_Co_fetch 2 := ⟨w_629, w_12, ⟨by decide, by decide, by decide +kernel⟩, by decide, by decide +kernel⟩
theorem cb_Ca_hasRoomFor : ev_CB M_Ca_hasRoomFor 1 := ⟨w_633, w_11, ⟨by decide, by decide, by decide +kernel⟩, by decide, by decide +kernel⟩
theorem cb_Ca_makeRoomFor : ev_CB M_Ca_makeRoomFor 1 := ⟨w_637, w_11, ⟨by decide, by decide, by decide +kernel⟩, by decide, by decide +kernel⟩
theorem cb_FB_hasRoom : ev_CB M_FB_hasRoom 0 := ⟨w_317, w_8, ⟨by decide, by decide, by decide +kernel⟩, by decide, by decide +kernel⟩
theorem cb_Ho_takeGets : ev_CB M_Ho_takeGets 1 := ⟨w_517, w_9, ⟨by decide, by decide, by decide +kernel⟩, by decide, by decide +kernel⟩
theorem cb_Ho_takeGetm : ev_CB M_Ho_takeGetm 1 := ⟨w_568, w_9, ⟨by decide, by decide, by decide +kernel⟩, by decide, by decide +kernel⟩
theorem cb_Ho_takePuts : ev_CB M_Ho_takePuts 1 := ⟨w_578, w_9, ⟨by decide, by decide, by decide +kernel⟩, by decide, by decide +kernel⟩
theorem cb_Ho_takePutm : ev_CB M_Ho_takePutm 2 := ⟨w_586, w_9, ⟨by decide, by decide, by decide +kernel⟩, by decide, by decide +kernel⟩
theorem cb_In_bitCount : ev_CB M_In_bitCount 1 := ⟨w_571, w_21, ⟨by decide, by decide, by decide +kernel⟩, by decide, by decide +kernel⟩
theorem cb_Ho_dropSharer : ev_CB M_Ho_dropSharer 1 := ⟨w_582, w_9, ⟨by decide, by decide, by decide +kernel⟩, by decide, by decide +kernel⟩
theorem cb_AL_init : ev_CB M_AL_init 0 := ⟨w_56, w_7, ⟨by decide, by decide, by decide +kernel⟩, by decide, by decide +kernel⟩
theorem cb_FB_init : ev_CB M_FB_init 1 := ⟨w_83, w_8, ⟨by decide, by decide, by decide +kernel⟩, by decide, by decide +kernel⟩
theorem cb_AL_isEmpty : ev_CB M_AL_isEmpty 0 := ⟨w_313, w_7, ⟨by decide, by decide, by decide +kernel⟩, by decide, by decide +kernel⟩
theorem cb_AL_get : ev_CB M_AL_get 1 := ⟨w_323, w_7, ⟨by decide, by decide, by decide +kernel⟩, by decide, by decide +kernel⟩
theorem cb_Fl_init : ev_CB M_Fl_init 2 := ⟨w_337, w_14, ⟨by decide, by decide, by decide +kernel⟩, by decide, by decide +kernel⟩
theorem cb_FB_put : ev_CB M_FB_put 2 := ⟨w_361, w_8, ⟨by decide, by decide, by decide +kernel⟩, by decide, by decide +kernel⟩
theorem cb_AL_remove : ev_CB M_AL_remove 1 := ⟨w_366, w_7, ⟨by decide, by decide, by decide +kernel⟩, by decide, by decide +kernel⟩
theorem cb_FB_front : ev_CB M_FB_front 0 := ⟨w_397, w_8, ⟨by decide, by decide, by decide +kernel⟩, by decide, by decide +kernel⟩
theorem cb_La_wayTo : ev_CB M_La_wayTo 1 := ⟨w_401, w_4, ⟨by decide, by decide, by decide +kernel⟩, by decide, by decide +kernel⟩
theorem cb_FB_dropFront : ev_CB M_FB_dropFront 0 := ⟨w_473, w_8, ⟨by decide, by decide, by decide +kernel⟩, by decide, by decide +kernel⟩
theorem cb_La_init : ev_CB M_La_init 2 := ⟨w_50, w_4, ⟨by decide, by decide, by decide +kernel⟩, by decide, by decide +kernel⟩
theorem cb_Pa_init : ev_CB M_Pa_init 7 := ⟨w_526, w_20, ⟨by decide, by decide, by decide +kernel⟩, by decide, by decide +kernel⟩
theorem cb_Pa_channel : ev_CB M_Pa_channel 0 := ⟨w_564, w_20, ⟨by decide, by decide, by decide +kernel⟩, by decide, by decide +kernel⟩
theorem cb_AL_add1 : ev_CB M_AL_add1 1 := ⟨w_410, w_7, ⟨by decide, by decide, by decide +kernel⟩, by decide, by decide +kernel⟩
theorem cb_La_enterFlit : ev_CB M_La_enterFlit 1 := ⟨w_309, w_4, ⟨by decide, by decide, by decide +kernel⟩, by decide, by decide +kernel⟩
theorem cb_Me_moveOneFlit : ev_CB M_Me_moveOneFlit 3 := ⟨w_381, w_2, ⟨by decide, by decide, by decide +kernel⟩, by decide, by decide +kernel⟩
theorem cb_Me_moveFlitOf : ev_CB M_Me_moveFlitOf 4 := ⟨w_385, w_2, ⟨by decide, by decide, by decide +kernel⟩, by decide, by decide +kernel⟩
theorem cb_La_portFor : ev_CB M_La_portFor 1 := ⟨w_393, w_4, ⟨by decide, by decide, by decide +kernel⟩, by decide, by decide +kernel⟩
theorem cb_Me_leaveMesh : ev_CB M_Me_leaveMesh 2 := ⟨w_406, w_2, ⟨by decide, by decide, by decide +kernel⟩, by decide, by decide +kernel⟩
theorem cb_Me_bufferBeyond : ev_CB M_Me_bufferBeyond 3 := ⟨w_463, w_2, ⟨by decide, by decide, by decide +kernel⟩, by decide, by decide +kernel⟩
theorem cb_La_dropFront : ev_CB M_La_dropFront 2 := ⟨w_469, w_4, ⟨by decide, by decide, by decide +kernel⟩, by decide, by decide +kernel⟩
theorem cb_Ca_init : ev_CB M_Ca_init 2 := ⟨w_192, w_11, ⟨by decide, by decide, by decide +kernel⟩, by decide, by decide +kernel⟩
theorem cb_Co_init : ev_CB M_Co_init 1 := ⟨w_224, w_12, ⟨by decide, by decide, by decide +kernel⟩, by decide, by decide +kernel⟩
theorem cb_No_firstToTake : ev_CB M_No_firstToTake 1 := ⟨w_482, w_10, ⟨by decide, by decide, by decide +kernel⟩, by decide, by decide +kernel⟩
theorem cb_No_take : ev_CB M_No_take 2 := ⟨w_509, w_10, ⟨by decide, by decide, by decide +kernel⟩, by decide, by decide +kernel⟩
theorem cb_No_stalls : ev_CB M_No_stalls 1 := ⟨w_492, w_10, ⟨by decide, by decide, by decide +kernel⟩, by decide, by decide +kernel⟩
theorem cb_Pa_isForHome : ev_CB M_Pa_isForHome 0 := ⟨w_496, w_20, ⟨by decide, by decide, by decide +kernel⟩, by decide, by decide +kernel⟩
theorem cb_Ho_stalls : ev_CB M_Ho_stalls 1 := ⟨w_500, w_9, ⟨by decide, by decide, by decide +kernel⟩, by decide, by decide +kernel⟩
theorem cb_Ca_stalls : ev_CB M_Ca_stalls 1 := ⟨w_504, w_11, ⟨by decide, by decide, by decide +kernel⟩, by decide, by decide +kernel⟩
theorem cb_Ho_take : ev_CB M_Ho_take 1 := ⟨w_513, w_9, ⟨by decide, by decide, by decide +kernel⟩, by decide, by decide +kernel⟩
theorem cb_Ca_take : ev_CB M_Ca_take 1 := ⟨w_590, w_11, ⟨by decide, by decide, by decide +kernel⟩, by decide, by decide +kernel⟩
theorem cb_Lw_cell : ev_CB M_Lw_cell 2 := ⟨w_671, w_0, ⟨by decide, by decide, by decide +kernel⟩, by decide, by decide +kernel⟩
theorem cb_ML_init : ev_CB M_ML_init 2 := ⟨w_26, w_1, ⟨by decide, by decide, by decide +kernel⟩, by decide, by decide +kernel⟩
theorem cb_Mo_init : ev_CB M_Mo_init 2 := ⟨w_676, w_13, ⟨by decide, by decide, by decide +kernel⟩, by decide, by decide +kernel⟩
theorem cb_ML_operation : ev_CB M_ML_operation 5 := ⟨w_290, w_1, ⟨by decide, by decide, by decide +kernel⟩, by decide, by decide +kernel⟩
theorem cb_Mo_operation : ev_CB M_Mo_operation 5 := ⟨w_806, w_13, ⟨by decide, by decide, by decide +kernel⟩, by decide, by decide +kernel⟩
theorem cb_ML_run : ev_CB M_ML_run 1 := ⟨w_301, w_1, ⟨by decide, by decide, by decide +kernel⟩, by decide, by decide +kernel⟩
theorem cb_Mo_run : ev_CB M_Mo_run 1 := ⟨w_816, w_13, ⟨by decide, by decide, by decide +kernel⟩, by decide, by decide +kernel⟩
theorem cb_ML_result : ev_CB M_ML_result 2 := ⟨w_642, w_1, ⟨by decide, by decide, by decide +kernel⟩, by decide, by decide +kernel⟩
theorem cb_Mo_result : ev_CB M_Mo_result 2 := ⟨w_927, w_13, ⟨by decide, by decide, by decide +kernel⟩, by decide, by decide +kernel⟩
theorem cb_ML_done : ev_CB M_ML_done 1 := ⟨w_646, w_1, ⟨by decide, by decide, by decide +kernel⟩, by decide, by decide +kernel⟩
theorem cb_Mo_done : ev_CB M_Mo_done 1 := ⟨w_931, w_13, ⟨by decide, by decide, by decide +kernel⟩, by decide, by decide +kernel⟩
theorem cb_ML_cache : ev_CB M_ML_cache 3 := ⟨w_650, w_1, ⟨by decide, by decide, by decide +kernel⟩, by decide, by decide +kernel⟩
theorem cb_Mo_cache : ev_CB M_Mo_cache 3 := ⟨w_935, w_13, ⟨by decide, by decide, by decide +kernel⟩, by decide, by decide +kernel⟩
theorem cb_ML_home : ev_CB M_ML_home 2 := ⟨w_654, w_1, ⟨by decide, by decide, by decide +kernel⟩, by decide, by decide +kernel⟩
theorem cb_Mo_home : ev_CB M_Mo_home 2 := ⟨w_939, w_13, ⟨by decide, by decide, by decide +kernel⟩, by decide, by decide +kernel⟩
theorem cb_ML_buffer : ev_CB M_ML_buffer 3 := ⟨w_658, w_1, ⟨by decide, by decide, by decide +kernel⟩, by decide, by decide +kernel⟩
theorem cb_Mo_buffer : ev_CB M_Mo_buffer 3 := ⟨w_943, w_13, ⟨by decide, by decide, by decide +kernel⟩, by decide, by decide +kernel⟩
theorem cb_ML_held : ev_CB M_ML_held 3 := ⟨w_664, w_1, ⟨by decide, by decide, by decide +kernel⟩, by decide, by decide +kernel⟩
theorem cb_Mo_held : ev_CB M_Mo_held 3 := ⟨w_947, w_13, ⟨by decide, by decide, by decide +kernel⟩, by decide, by decide +kernel⟩
theorem cb_ML_count : ev_CB M_ML_count 1 := ⟨w_668, w_1, ⟨by decide, by decide, by decide +kernel⟩, by decide, by decide +kernel⟩
theorem cb_Mo_count : ev_CB M_Mo_count 1 := ⟨w_951, w_13, ⟨by decide, by decide, by decide +kernel⟩, by decide, by decide +kernel⟩
theorem cb_Mo_channelOf : ev_CB M_Mo_channelOf 1 := ⟨w_873, w_13, ⟨by decide, by decide, by decide +kernel⟩, by decide, by decide +kernel⟩
theorem cb_Mo_append : ev_CB M_Mo_append 3 := ⟨w_828, w_13, ⟨by decide, by decide, by decide +kernel⟩, by decide, by decide +kernel⟩
theorem cb_Mo_sizeOf : ev_CB M_Mo_sizeOf 1 := ⟨w_832, w_13, ⟨by decide, by decide, by decide +kernel⟩, by decide, by decide +kernel⟩
theorem cb_Mo_way : ev_CB M_Mo_way 2 := ⟨w_843, w_13, ⟨by decide, by decide, by decide +kernel⟩, by decide, by decide +kernel⟩
theorem cb_Mo_served : ev_CB M_Mo_served 3 := ⟨w_840, w_13, ⟨by decide, by decide, by decide +kernel⟩, by decide, by decide +kernel⟩
theorem cb_Mo_neighbour : ev_CB M_Mo_neighbour 2 := ⟨w_846, w_13, ⟨by decide, by decide, by decide +kernel⟩, by decide, by decide +kernel⟩
theorem cb_Mo_removeFront : ev_CB M_Mo_removeFront 1 := ⟨w_850, w_13, ⟨by decide, by decide, by decide +kernel⟩, by decide, by decide +kernel⟩
theorem cb_Mo_finish : ev_CB M_Mo_finish 2 := ⟨w_908, w_13, ⟨by decide, by decide, by decide +kernel⟩, by decide, by decide +kernel⟩
theorem cb_Mo_send : ev_CB M_Mo_send 7 := ⟨w_870, w_13, ⟨by decide, by decide, by decide +kernel⟩, by decide, by decide +kernel⟩
theorem cb_Mo_homeOf : ev_CB M_Mo_homeOf 1 := ⟨w_892, w_13, ⟨by decide, by decide, by decide +kernel⟩, by decide, by decide +kernel⟩
theorem cb_Mo_become : ev_CB M_Mo_become 3 := ⟨w_904, w_13, ⟨by decide, by decide, by decide +kernel⟩, by decide, by decide +kernel⟩
theorem cb_Mo_gone : ev_CB M_Mo_gone 2 := ⟨w_881, w_13, ⟨by decide, by decide, by decide +kernel⟩, by decide, by decide +kernel⟩
theorem cb_Mo_gets : ev_CB M_Mo_gets 3 := ⟨w_866, w_13, ⟨by decide, by decide, by decide +kernel⟩, by decide, by decide +kernel⟩
theorem cb_Mo_getm : ev_CB M_Mo_getm 3 := ⟨w_877, w_13, ⟨by decide, by decide, by decide +kernel⟩, by decide, by decide +kernel⟩
theorem cb_Mo_putm : ev_CB M_Mo_putm 3 := ⟨w_885, w_13, ⟨by decide, by decide, by decide +kernel⟩, by decide, by decide +kernel⟩
theorem cb_Mo_forward : ev_CB M_Mo_forward 3 := ⟨w_889, w_13, ⟨by decide, by decide, by decide +kernel⟩, by decide, by decide +kernel⟩
theorem cb_Mo_invalidate : ev_CB M_Mo_invalidate 2 := ⟨w_896, w_13, ⟨by decide, by decide, by decide +kernel⟩, by decide, by decide +kernel⟩
theorem cb_Mo_data : ev_CB M_Mo_data 2 := ⟨w_900, w_13, ⟨by decide, by decide, by decide +kernel⟩, by decide, by decide +kernel⟩
theorem cb_Mo_acknowledged : ev_CB M_Mo_acknowledged 2 := ⟨w_912, w_13, ⟨by decide, by decide, by decide +kernel⟩, by decide, by decide +kernel⟩
theorem cb_Mo_isBehind : ev_CB M_Mo_isBehind 2 := ⟨w_858, w_13, ⟨by decide, by decide, by decide +kernel⟩, by decide, by decide +kernel⟩
theorem cb_Mo_takes : ev_CB M_Mo_takes 2 := ⟨w_862, w_13, ⟨by decide, by decide, by decide +kernel⟩, by decide, by decide +kernel⟩
theorem cb_Mo_isLeaving : ev_CB M_Mo_isLeaving 1 := ⟨w_923, w_13, ⟨by decide, by decide, by decide +kernel⟩, by decide, by decide +kernel⟩
theorem cb_Mo_evict : ev_CB M_Mo_evict 2 := ⟨w_920, w_13, ⟨by decide, by decide, by decide +kernel⟩, by decide, by decide +kernel⟩
theorem cb_Mo_inject : ev_CB M_Mo_inject 2 := ⟨w_824, w_13, ⟨by decide, by decide, by decide +kernel⟩, by decide, by decide +kernel⟩
theorem cb_Mo_moves : ev_CB M_Mo_moves 3 := ⟨w_836, w_13, ⟨by decide, by decide, by decide +kernel⟩, by decide, by decide +kernel⟩
theorem cb_Mo_takeFirst : ev_CB M_Mo_takeFirst 2 := ⟨w_854, w_13, ⟨by decide, by decide, by decide +kernel⟩, by decide, by decide +kernel⟩
theorem cb_Mo_core : ev_CB M_Mo_core 1 := ⟨w_916, w_13, ⟨by decide, by decide, by decide +kernel⟩, by decide, by decide +kernel⟩
theorem cb_Mo_isNode : ev_CB M_Mo_isNode 1 := ⟨w_809, w_13, ⟨by decide, by decide, by decide +kernel⟩, by decide, by decide +kernel⟩
theorem cb_Mo_isLine : ev_CB M_Mo_isLine 1 := ⟨w_812, w_13, ⟨by decide, by decide, by decide +kernel⟩, by decide, by decide +kernel⟩
theorem cb_Mo_oneCycle : ev_CB M_Mo_oneCycle 0 := ⟨w_820, w_13, ⟨by decide, by decide, by decide +kernel⟩, by decide, by decide +kernel⟩
theorem cb_Ac_init : ev_CB M_Ac_init 0 := ⟨w_62, w_5, ⟨by decide, by decide, by decide +kernel⟩, by decide, by decide +kernel⟩
theorem cb_Al_init : ev_CB M_Al_init 0 := ⟨w_59, w_6, ⟨by decide, by decide, by decide +kernel⟩, by decide, by decide +kernel⟩
theorem cb_Ar_copyOf2 : ev_CB M_Ar_copyOf2 2 := ⟨w_433, w_19, ⟨by decide, by decide, by decide +kernel⟩, by decide, by decide +kernel⟩
theorem cb_AL_grow1 : ev_CB M_AL_grow1 1 := ⟨w_422, w_7, ⟨by decide, by decide, by decide +kernel⟩, by decide, by decide +kernel⟩
theorem cb_As_newLength : ev_CB M_As_newLength 3 := ⟨w_425, w_18, ⟨by decide, by decide, by decide +kernel⟩, by decide, by decide +kernel⟩
theorem cb_Os_checkIndex : ev_CB M_Os_checkIndex 2 := ⟨w_326, w_15, ⟨by decide, by decide, by decide +kernel⟩, by decide, by decide +kernel⟩
theorem cb_AL_elementData : ev_CB M_AL_elementData 1 := ⟨w_333, w_7, ⟨by decide, by decide, by decide +kernel⟩, by decide, by decide +kernel⟩
theorem cb_AL_grow0 : ev_CB M_AL_grow0 0 := ⟨w_418, w_7, ⟨by decide, by decide, by decide +kernel⟩, by decide, by decide +kernel⟩
theorem cb_AL_add3 : ev_CB M_AL_add3 3 := ⟨w_414, w_7, ⟨by decide, by decide, by decide +kernel⟩, by decide, by decide +kernel⟩
theorem cb_AL_fastRemove : ev_CB M_AL_fastRemove 2 := ⟨w_370, w_7, ⟨by decide, by decide, by decide +kernel⟩, by decide, by decide +kernel⟩
theorem cb_Ar_copyOf3 : ev_CB M_Ar_copyOf3 3 := ⟨w_452, w_19, ⟨by decide, by decide, by decide +kernel⟩, by decide, by decide +kernel⟩
theorem cb_Pr_checkIndex : ev_CB M_Pr_checkIndex 3 := ⟨w_329, w_16, ⟨by decide, by decide, by decide +kernel⟩, by decide, by decide +kernel⟩
theorem cb_As_hugeLength : ev_CB M_As_hugeLength 2 := ⟨w_430, w_18, ⟨by decide, by decide, by decide +kernel⟩, by decide, by decide +kernel⟩
theorem cs_ML_9 : ev_CS "MeshLines" 9 M_ML_nearest 3 := ⟨cb_ML_nearest, w_32, w_33⟩
theorem ci_ML_15 : ev_CI "MeshLines" 15 M_Me_init 2 := ⟨cb_Me_init, w_41, w_42, rfl, rfl⟩
theorem ci_ML_28 : ev_CI "MeshLines" 28 M_Ho_init 2 := ⟨cb_Ho_init, w_148, w_149, rfl, rfl⟩
theorem ci_ML_37 : ev_CI "MeshLines" 37 M_No_init 3 := ⟨cb_No_init, w_184, w_185, rfl, rfl⟩
theorem cs_ML_40 : ev_CS "MeshLines" 40 M_ML_isBelow 2 := ⟨cb_ML_isBelow, w_291, w_292⟩
theorem cv_ML_48 : ev_CV "MeshLines" 48 8 M_Co_append 4 := ⟨cb_Co_append, w_294, w_295, w_296, _, _, (ck_8).1⟩
theorem cv_ML_58 : ev_CV "MeshLines" 58 1 M_Me_enterFlits 1 := ⟨cb_Me_enterFlits, w_302, w_303, w_304, _, _, (ck_1).1⟩
theorem cv_ML_62 : ev_CV "MeshLines" 62 1 M_Me_moveFlits 1 := ⟨cb_Me_moveFlits, w_374, w_375, w_376, _, _, (ck_1).1⟩
theorem cv_ML_65 : ev_CV "MeshLines" 65 6 M_No_takePackets 1 := ⟨cb_No_takePackets, w_474, w_475, w_476, _, _, (ck_6).1⟩
theorem cv_ML_68 : ev_CV "MeshLines" 68 8 M_Co_act 1 := ⟨cb_Co_act, w_617, w_618, w_619, _, _, (ck_8).1⟩
theorem cv_ML_108 : ev_CV "MeshLines" 108 1 M_Me_laneOf 2 := ⟨cb_Me_laneOf, w_659, w_387, w_388, _, _, (ck_1).1⟩
theorem cv_ML_118 : ev_CV "MeshLines" 118 3 M_AL_size 0 := ⟨cb_AL_size, w_660, w_484, w_485, _, _, (ck_3).1⟩
theorem cs_ML_147 : ev_CS "MeshLines" 147 M_Ma_min 2 := ⟨cb_Ma_min, w_35, w_36⟩
theorem cs_ML_153 : ev_CS "MeshLines" 153 M_Ma_max 2 := ⟨cb_Ma_max, w_38, w_39⟩
theorem ws_Ca_takeData : Cond.selects "MeshLines$Cache" ⟨"MeshLines$Cache", "takeData", "(LMeshLines$Packet;)Z"⟩ ⟨"MeshLines$Cache", "takeData", "(LMeshLines$Packet;)Z"⟩ ∈ evW := List.mem_filter.mpr ⟨List.mem_append_left _ (by decide +kernel), by decide +kernel⟩
theorem cv_Ca_40 : ev_CV "MeshLines$Cache" 40 7 M_Ca_takeData 1 := ⟨cb_Ca_takeData, w_591, w_593, ws_Ca_takeData, _, _, (ck_7).1⟩
theorem ws_Ca_takeAck : Cond.selects "MeshLines$Cache" ⟨"MeshLines$Cache", "takeAck", "(I)Z"⟩ ⟨"MeshLines$Cache", "takeAck", "(I)Z"⟩ ∈ evW := List.mem_filter.mpr ⟨List.mem_append_left _ (by decide +kernel), by decide +kernel⟩
theorem cv_Ca_44 : ev_CV "MeshLines$Cache" 44 7 M_Ca_takeAck 1 := ⟨cb_Ca_takeAck, w_595, w_597, ws_Ca_takeAck, _, _, (ck_7).1⟩
theorem ws_Ca_takeInv : Cond.selects "MeshLines$Cache" ⟨"MeshLines$Cache", "takeInv", "(LMeshLines$Packet;)V"⟩ ⟨"MeshLines$Cache", "takeInv", "(LMeshLines$Packet;)V"⟩ ∈ evW := List.mem_filter.mpr ⟨List.mem_append_left _ (by decide +kernel), by decide +kernel⟩
theorem cv_Ca_48 : ev_CV "MeshLines$Cache" 48 7 M_Ca_takeInv 1 := ⟨cb_Ca_takeInv, w_599, w_601, ws_Ca_takeInv, _, _, (ck_7).1⟩
theorem ws_Ca_become : Cond.selects "MeshLines$Cache" ⟨"MeshLines$Cache", "become", "(II)V"⟩ ⟨"MeshLines$Cache", "become", "(II)V"⟩ ∈ evW := List.mem_filter.mpr ⟨List.mem_append_left _ (by decide +kernel), by decide +kernel⟩
theorem cv_Ca_52 : ev_CV "MeshLines$Cache" 52 7 M_Ca_become 2 := ⟨cb_Ca_become, w_603, w_605, ws_Ca_become, _, _, (ck_7).1⟩
theorem ws_Ca_giveData : Cond.selects "MeshLines$Cache" ⟨"MeshLines$Cache", "giveData", "(III)V"⟩ ⟨"MeshLines$Cache", "giveData", "(III)V"⟩ ∈ evW := List.mem_filter.mpr ⟨List.mem_append_left _ (by decide +kernel), by decide +kernel⟩
theorem cv_Ca_59 : ev_CV "MeshLines$Cache" 59 7 M_Ca_giveData 3 := ⟨cb_Ca_giveData, w_608, w_610, ws_Ca_giveData, _, _, (ck_7).1⟩
theorem cn_Ca_63 : ev_CN "MeshLines$Cache" 63 M_ML_homeOf 1 := ⟨cb_ML_homeOf, ⟨_, xn_Ca_63⟩, w_153⟩
theorem cv_Ca_73 : ev_CV "MeshLines$Cache" 73 1 M_Me_send 7 := ⟨cb_Me_send, w_607, w_519, w_520, _, _, (ck_1).1⟩
theorem cv_Ca_79 : ev_CV "MeshLines$Cache" 79 7 M_Ca_ask 3 := ⟨cb_Ca_ask, w_638, w_623, w_624, _, _, (ck_7).1⟩
theorem cv_Co_46 : ev_CV "MeshLines$Core" 46 8 M_Co_finishPresent 1 := ⟨cb_Co_finishPresent, w_621, w_614, w_615, _, _, (ck_8).1⟩
theorem cv_Co_50 : ev_CV "MeshLines$Core" 50 7 M_Ca_ask 3 := ⟨cb_Ca_ask, w_622, w_623, w_624, _, _, (ck_7).1⟩
theorem ws_Co_fetch : Cond.selects "MeshLines$Core" ⟨"MeshLines$Core", "fetch", "(IZ)V"⟩ ⟨"MeshLines$Core", "fetch", "(IZ)V"⟩ ∈ evW := List.mem_filter.mpr ⟨List.mem_append_left _ (by decide +kernel), by decide +kernel⟩
theorem cv_Co_54 : ev_CV "MeshLines$Core" 54 8 M_Co_fetch 2 := ⟨cb_Co_fetch, w_626, w_628, ws_Co_fetch, _, _, (ck_8).1⟩
theorem cv_Co_58 : ev_CV "MeshLines$Core" 58 7 M_Ca_hasRoomFor 1 := ⟨cb_Ca_hasRoomFor, w_630, w_631, w_632, _, _, (ck_7).1⟩
theorem cv_Co_62 : ev_CV "MeshLines$Core" 62 7 M_Ca_makeRoomFor 1 := ⟨cb_Ca_makeRoomFor, w_634, w_635, w_636, _, _, (ck_7).1⟩
theorem cv_FB_19 : ev_CV "MeshLines$FlitBuffer" 19 4 M_FB_hasRoom 0 := ⟨cb_FB_hasRoom, w_362, w_315, w_316, _, _, (ck_4).1⟩
theorem cn_Ho_21 : ev_CN "MeshLines$Home" 21 M_ML_homeOf 1 := ⟨cb_ML_homeOf, ⟨_, xn_Ho_21⟩, w_153⟩
theorem ws_Ho_takeGets : Cond.selects "MeshLines$Home" ⟨"MeshLines$Home", "takeGets", "(I)V"⟩ ⟨"MeshLines$Home", "takeGets", "(I)V"⟩ ∈ evW := List.mem_filter.mpr ⟨List.mem_append_left _ (by decide +kernel), by decide +kernel⟩
theorem cv_Ho_40 : ev_CV "MeshLines$Home" 40 5 M_Ho_takeGets 1 := ⟨cb_Ho_takeGets, w_514, w_516, ws_Ho_takeGets, _, _, (ck_5).1⟩
theorem ws_Ho_takeGetm : Cond.selects "MeshLines$Home" ⟨"MeshLines$Home", "takeGetm", "(I)V"⟩ ⟨"MeshLines$Home", "takeGetm", "(I)V"⟩ ∈ evW := List.mem_filter.mpr ⟨List.mem_append_left _ (by decide +kernel), by decide +kernel⟩
theorem cv_Ho_44 : ev_CV "MeshLines$Home" 44 5 M_Ho_takeGetm 1 := ⟨cb_Ho_takeGetm, w_565, w_567, ws_Ho_takeGetm, _, _, (ck_5).1⟩
theorem ws_Ho_takePuts : Cond.selects "MeshLines$Home" ⟨"MeshLines$Home", "takePuts", "(I)V"⟩ ⟨"MeshLines$Home", "takePuts", "(I)V"⟩ ∈ evW := List.mem_filter.mpr ⟨List.mem_append_left _ (by decide +kernel), by decide +kernel⟩
theorem cv_Ho_47 : ev_CV "MeshLines$Home" 47 5 M_Ho_takePuts 1 := ⟨cb_Ho_takePuts, w_575, w_577, ws_Ho_takePuts, _, _, (ck_5).1⟩
theorem ws_Ho_takePutm : Cond.selects "MeshLines$Home" ⟨"MeshLines$Home", "takePutm", "(II)V"⟩ ⟨"MeshLines$Home", "takePutm", "(II)V"⟩ ∈ evW := List.mem_filter.mpr ⟨List.mem_append_left _ (by decide +kernel), by decide +kernel⟩
theorem cv_Ho_53 : ev_CV "MeshLines$Home" 53 5 M_Ho_takePutm 2 := ⟨cb_Ho_takePutm, w_583, w_585, ws_Ho_takePutm, _, _, (ck_5).1⟩
theorem cv_Ho_58 : ev_CV "MeshLines$Home" 58 1 M_Me_send 7 := ⟨cb_Me_send, w_518, w_519, w_520, _, _, (ck_1).1⟩
theorem cs_Ho_67 : ev_CS "MeshLines$Home" 67 M_In_bitCount 1 := ⟨cb_In_bitCount, w_569, w_570⟩
theorem ws_Ho_dropSharer : Cond.selects "MeshLines$Home" ⟨"MeshLines$Home", "dropSharer", "(I)V"⟩ ⟨"MeshLines$Home", "dropSharer", "(I)V"⟩ ∈ evW := List.mem_filter.mpr ⟨List.mem_append_left _ (by decide +kernel), by decide +kernel⟩
theorem cv_Ho_72 : ev_CV "MeshLines$Home" 72 5 M_Ho_dropSharer 1 := ⟨cb_Ho_dropSharer, w_579, w_581, ws_Ho_dropSharer, _, _, (ck_5).1⟩
theorem ci_La_11 : ev_CI "MeshLines$Lane" 11 M_AL_init 0 := ⟨cb_AL_init, w_54, w_55, rfl, rfl⟩
theorem ci_La_38 : ev_CI "MeshLines$Lane" 38 M_FB_init 1 := ⟨cb_FB_init, w_81, w_82, rfl, rfl⟩
theorem cv_La_41 : ev_CV "MeshLines$Lane" 41 3 M_AL_isEmpty 0 := ⟨cb_AL_isEmpty, w_310, w_311, w_312, _, _, (ck_3).1⟩
theorem cv_La_45 : ev_CV "MeshLines$Lane" 45 4 M_FB_hasRoom 0 := ⟨cb_FB_hasRoom, w_314, w_315, w_316, _, _, (ck_4).1⟩
theorem cv_La_50 : ev_CV "MeshLines$Lane" 50 3 M_AL_get 1 := ⟨cb_AL_get, w_320, w_321, w_322, _, _, (ck_3).1⟩
theorem ci_La_59 : ev_CI "MeshLines$Lane" 59 M_Fl_init 2 := ⟨cb_Fl_init, w_335, w_336, rfl, rfl⟩
theorem cv_La_62 : ev_CV "MeshLines$Lane" 62 4 M_FB_put 2 := ⟨cb_FB_put, w_358, w_359, w_360, _, _, (ck_4).1⟩
theorem cv_La_70 : ev_CV "MeshLines$Lane" 70 3 M_AL_remove 1 := ⟨cb_AL_remove, w_363, w_364, w_365, _, _, (ck_3).1⟩
theorem cv_La_73 : ev_CV "MeshLines$Lane" 73 4 M_FB_front 0 := ⟨cb_FB_front, w_394, w_395, w_396, _, _, (ck_4).1⟩
theorem ws_La_wayTo : Cond.selects "MeshLines$Lane" ⟨"MeshLines$Lane", "wayTo", "(I)I"⟩ ⟨"MeshLines$Lane", "wayTo", "(I)I"⟩ ∈ evW := List.mem_filter.mpr ⟨List.mem_append_left _ (by decide +kernel), by decide +kernel⟩
theorem cv_La_87 : ev_CV "MeshLines$Lane" 87 2 M_La_wayTo 1 := ⟨cb_La_wayTo, w_398, w_400, ws_La_wayTo, _, _, (ck_2).1⟩
theorem cv_La_91 : ev_CV "MeshLines$Lane" 91 4 M_FB_dropFront 0 := ⟨cb_FB_dropFront, w_470, w_471, w_472, _, _, (ck_4).1⟩
theorem ci_Me_21 : ev_CI "MeshLines$Mesh" 21 M_La_init 2 := ⟨cb_La_init, w_48, w_49, rfl, rfl⟩
theorem ci_Me_26 : ev_CI "MeshLines$Mesh" 26 M_Pa_init 7 := ⟨cb_Pa_init, w_524, w_525, rfl, rfl⟩
theorem cv_Me_29 : ev_CV "MeshLines$Mesh" 29 10 M_Pa_channel 0 := ⟨cb_Pa_channel, w_561, w_562, w_563, _, _, (ck_10).1⟩
theorem cv_Me_33 : ev_CV "MeshLines$Mesh" 33 1 M_Me_laneOf 2 := ⟨cb_Me_laneOf, w_386, w_387, w_388, _, _, (ck_1).1⟩
theorem cv_Me_41 : ev_CV "MeshLines$Mesh" 41 3 M_AL_add1 1 := ⟨cb_AL_add1, w_407, w_408, w_409, _, _, (ck_3).1⟩
theorem cv_Me_50 : ev_CV "MeshLines$Mesh" 50 2 M_La_enterFlit 1 := ⟨cb_La_enterFlit, w_306, w_307, w_308, _, _, (ck_2).1⟩
theorem ws_Me_moveOneFlit : Cond.selects "MeshLines$Mesh" ⟨"MeshLines$Mesh", "moveOneFlit", "(III)V"⟩ ⟨"MeshLines$Mesh", "moveOneFlit", "(III)V"⟩ ∈ evW := List.mem_filter.mpr ⟨List.mem_append_left _ (by decide +kernel), by decide +kernel⟩
theorem cv_Me_57 : ev_CV "MeshLines$Mesh" 57 1 M_Me_moveOneFlit 3 := ⟨cb_Me_moveOneFlit, w_378, w_380, ws_Me_moveOneFlit, _, _, (ck_1).1⟩
theorem ws_Me_moveFlitOf : Cond.selects "MeshLines$Mesh" ⟨"MeshLines$Mesh", "moveFlitOf", "(IIII)Z"⟩ ⟨"MeshLines$Mesh", "moveFlitOf", "(IIII)Z"⟩ ∈ evW := List.mem_filter.mpr ⟨List.mem_append_left _ (by decide +kernel), by decide +kernel⟩
theorem cv_Me_61 : ev_CV "MeshLines$Mesh" 61 1 M_Me_moveFlitOf 4 := ⟨cb_Me_moveFlitOf, w_382, w_384, ws_Me_moveFlitOf, _, _, (ck_1).1⟩
theorem cv_Me_65 : ev_CV "MeshLines$Mesh" 65 2 M_La_portFor 1 := ⟨cb_La_portFor, w_390, w_391, w_392, _, _, (ck_2).1⟩
theorem cv_Me_73 : ev_CV "MeshLines$Mesh" 73 4 M_FB_front 0 := ⟨cb_FB_front, w_402, w_395, w_396, _, _, (ck_4).1⟩
theorem ws_Me_leaveMesh : Cond.selects "MeshLines$Mesh" ⟨"MeshLines$Mesh", "leaveMesh", "(LMeshLines$Flit;LMeshLines$Lane;)V"⟩ ⟨"MeshLines$Mesh", "leaveMesh", "(LMeshLines$Flit;LMeshLines$Lane;)V"⟩ ∈ evW := List.mem_filter.mpr ⟨List.mem_append_left _ (by decide +kernel), by decide +kernel⟩
theorem cv_Me_84 : ev_CV "MeshLines$Mesh" 84 1 M_Me_leaveMesh 2 := ⟨cb_Me_leaveMesh, w_403, w_405, ws_Me_leaveMesh, _, _, (ck_1).1⟩
theorem ws_Me_bufferBeyond : Cond.selects "MeshLines$Mesh" ⟨"MeshLines$Mesh", "bufferBeyond", "(III)LMeshLines$FlitBuffer;"⟩ ⟨"MeshLines$Mesh", "bufferBeyond", "(III)LMeshLines$FlitBuffer;"⟩ ∈ evW := List.mem_filter.mpr ⟨List.mem_append_left _ (by decide +kernel), by decide +kernel⟩
theorem cv_Me_88 : ev_CV "MeshLines$Mesh" 88 1 M_Me_bufferBeyond 3 := ⟨cb_Me_bufferBeyond, w_460, w_462, ws_Me_bufferBeyond, _, _, (ck_1).1⟩
theorem cv_Me_92 : ev_CV "MeshLines$Mesh" 92 4 M_FB_hasRoom 0 := ⟨cb_FB_hasRoom, w_464, w_315, w_316, _, _, (ck_4).1⟩
theorem cv_Me_96 : ev_CV "MeshLines$Mesh" 96 4 M_FB_put 2 := ⟨cb_FB_put, w_465, w_359, w_360, _, _, (ck_4).1⟩
theorem cv_Me_103 : ev_CV "MeshLines$Mesh" 103 2 M_La_dropFront 2 := ⟨cb_La_dropFront, w_466, w_467, w_468, _, _, (ck_2).1⟩
theorem ci_No_25 : ev_CI "MeshLines$Node" 25 M_Ca_init 2 := ⟨cb_Ca_init, w_190, w_191, rfl, rfl⟩
theorem ci_No_34 : ev_CI "MeshLines$Node" 34 M_Co_init 1 := ⟨cb_Co_init, w_222, w_223, rfl, rfl⟩
theorem cv_No_41 : ev_CV "MeshLines$Node" 41 1 M_Me_laneOf 2 := ⟨cb_Me_laneOf, w_478, w_387, w_388, _, _, (ck_1).1⟩
theorem ws_No_firstToTake : Cond.selects "MeshLines$Node" ⟨"MeshLines$Node", "firstToTake", "(Ljava/util/ArrayList;)I"⟩ ⟨"MeshLines$Node", "firstToTake", "(Ljava/util/ArrayList;)I"⟩ ∈ evW := List.mem_filter.mpr ⟨List.mem_append_left _ (by decide +kernel), by decide +kernel⟩
theorem cv_No_53 : ev_CV "MeshLines$Node" 53 6 M_No_firstToTake 1 := ⟨cb_No_firstToTake, w_479, w_481, ws_No_firstToTake, _, _, (ck_6).1⟩
theorem cv_No_57 : ev_CV "MeshLines$Node" 57 3 M_AL_remove 1 := ⟨cb_AL_remove, w_505, w_364, w_365, _, _, (ck_3).1⟩
theorem ws_No_take : Cond.selects "MeshLines$Node" ⟨"MeshLines$Node", "take", "(LMeshLines$Packet;I)V"⟩ ⟨"MeshLines$Node", "take", "(LMeshLines$Packet;I)V"⟩ ∈ evW := List.mem_filter.mpr ⟨List.mem_append_left _ (by decide +kernel), by decide +kernel⟩
theorem cv_No_65 : ev_CV "MeshLines$Node" 65 6 M_No_take 2 := ⟨cb_No_take, w_506, w_508, ws_No_take, _, _, (ck_6).1⟩
theorem cv_No_69 : ev_CV "MeshLines$Node" 69 3 M_AL_size 0 := ⟨cb_AL_size, w_483, w_484, w_485, _, _, (ck_3).1⟩
theorem cv_No_73 : ev_CV "MeshLines$Node" 73 3 M_AL_get 1 := ⟨cb_AL_get, w_487, w_321, w_322, _, _, (ck_3).1⟩
theorem ws_No_stalls : Cond.selects "MeshLines$Node" ⟨"MeshLines$Node", "stalls", "(LMeshLines$Packet;)Z"⟩ ⟨"MeshLines$Node", "stalls", "(LMeshLines$Packet;)Z"⟩ ∈ evW := List.mem_filter.mpr ⟨List.mem_append_left _ (by decide +kernel), by decide +kernel⟩
theorem cv_No_79 : ev_CV "MeshLines$Node" 79 6 M_No_stalls 1 := ⟨cb_No_stalls, w_489, w_491, ws_No_stalls, _, _, (ck_6).1⟩
theorem cv_No_83 : ev_CV "MeshLines$Node" 83 10 M_Pa_isForHome 0 := ⟨cb_Pa_isForHome, w_493, w_494, w_495, _, _, (ck_10).1⟩
theorem cv_No_87 : ev_CV "MeshLines$Node" 87 5 M_Ho_stalls 1 := ⟨cb_Ho_stalls, w_497, w_498, w_499, _, _, (ck_5).1⟩
theorem cv_No_90 : ev_CV "MeshLines$Node" 90 7 M_Ca_stalls 1 := ⟨cb_Ca_stalls, w_501, w_502, w_503, _, _, (ck_7).1⟩
theorem cv_No_91 : ev_CV "MeshLines$Node" 91 5 M_Ho_take 1 := ⟨cb_Ho_take, w_510, w_511, w_512, _, _, (ck_5).1⟩
theorem cv_No_94 : ev_CV "MeshLines$Node" 94 7 M_Ca_take 1 := ⟨cb_Ca_take, w_587, w_588, w_589, _, _, (ck_7).1⟩
theorem cv_No_96 : ev_CV "MeshLines$Node" 96 8 M_Co_finishPresent 1 := ⟨cb_Co_finishPresent, w_613, w_614, w_615, _, _, (ck_8).1⟩
theorem cs_Lw_9 : ev_CS "MeshLinesLaw" 9 M_Lw_cell 2 := ⟨cb_Lw_cell, w_669, w_670⟩
theorem ci_Lw_15 : ev_CI "MeshLinesLaw" 15 M_ML_init 2 := ⟨cb_ML_init, w_24, w_25, rfl, rfl⟩
theorem ci_Lw_20 : ev_CI "MeshLinesLaw" 20 M_Mo_init 2 := ⟨cb_Mo_init, w_674, w_675, rfl, rfl⟩
theorem cv_Lw_21 : ev_CV "MeshLinesLaw" 21 0 M_ML_operation 5 := ⟨cb_ML_operation, w_287, w_288, w_289, _, _, (ck_0).1⟩
theorem cv_Lw_25 : ev_CV "MeshLinesLaw" 25 11 M_Mo_operation 5 := ⟨cb_Mo_operation, w_803, w_804, w_805, _, _, (ck_11).1⟩
theorem cv_Lw_26 : ev_CV "MeshLinesLaw" 26 0 M_ML_run 1 := ⟨cb_ML_run, w_298, w_299, w_300, _, _, (ck_0).1⟩
theorem cv_Lw_30 : ev_CV "MeshLinesLaw" 30 11 M_Mo_run 1 := ⟨cb_Mo_run, w_813, w_814, w_815, _, _, (ck_11).1⟩
theorem cv_Lw_31 : ev_CV "MeshLinesLaw" 31 0 M_ML_result 2 := ⟨cb_ML_result, w_639, w_640, w_641, _, _, (ck_0).1⟩
theorem cv_Lw_35 : ev_CV "MeshLinesLaw" 35 11 M_Mo_result 2 := ⟨cb_Mo_result, w_924, w_925, w_926, _, _, (ck_11).1⟩
theorem cv_Lw_36 : ev_CV "MeshLinesLaw" 36 0 M_ML_done 1 := ⟨cb_ML_done, w_643, w_644, w_645, _, _, (ck_0).1⟩
theorem cv_Lw_39 : ev_CV "MeshLinesLaw" 39 11 M_Mo_done 1 := ⟨cb_Mo_done, w_928, w_929, w_930, _, _, (ck_11).1⟩
theorem cv_Lw_40 : ev_CV "MeshLinesLaw" 40 0 M_ML_cache 3 := ⟨cb_ML_cache, w_647, w_648, w_649, _, _, (ck_0).1⟩
theorem cv_Lw_44 : ev_CV "MeshLinesLaw" 44 11 M_Mo_cache 3 := ⟨cb_Mo_cache, w_932, w_933, w_934, _, _, (ck_11).1⟩
theorem cv_Lw_45 : ev_CV "MeshLinesLaw" 45 0 M_ML_home 2 := ⟨cb_ML_home, w_651, w_652, w_653, _, _, (ck_0).1⟩
theorem cv_Lw_48 : ev_CV "MeshLinesLaw" 48 11 M_Mo_home 2 := ⟨cb_Mo_home, w_936, w_937, w_938, _, _, (ck_11).1⟩
theorem cv_Lw_49 : ev_CV "MeshLinesLaw" 49 0 M_ML_buffer 3 := ⟨cb_ML_buffer, w_655, w_656, w_657, _, _, (ck_0).1⟩
theorem cv_Lw_52 : ev_CV "MeshLinesLaw" 52 11 M_Mo_buffer 3 := ⟨cb_Mo_buffer, w_940, w_941, w_942, _, _, (ck_11).1⟩
theorem cv_Lw_53 : ev_CV "MeshLinesLaw" 53 0 M_ML_held 3 := ⟨cb_ML_held, w_661, w_662, w_663, _, _, (ck_0).1⟩
theorem cv_Lw_56 : ev_CV "MeshLinesLaw" 56 11 M_Mo_held 3 := ⟨cb_Mo_held, w_944, w_945, w_946, _, _, (ck_11).1⟩
theorem cv_Lw_57 : ev_CV "MeshLinesLaw" 57 0 M_ML_count 1 := ⟨cb_ML_count, w_665, w_666, w_667, _, _, (ck_0).1⟩
theorem cv_Lw_60 : ev_CV "MeshLinesLaw" 60 11 M_Mo_count 1 := ⟨cb_Mo_count, w_948, w_949, w_950, _, _, (ck_11).1⟩
theorem cs_Mo_123 : ev_CS "MeshLinesModel" 123 M_Mo_channelOf 1 := ⟨cb_Mo_channelOf, w_871, w_872⟩
theorem ws_Mo_append : Cond.selects "MeshLinesModel" ⟨"MeshLinesModel", "append", "(III)V"⟩ ⟨"MeshLinesModel", "append", "(III)V"⟩ ∈ evW := List.mem_filter.mpr ⟨List.mem_append_left _ (by decide +kernel), by decide +kernel⟩
theorem cv_Mo_133 : ev_CV "MeshLinesModel" 133 11 M_Mo_append 3 := ⟨cb_Mo_append, w_825, w_827, ws_Mo_append, _, _, (ck_11).1⟩
theorem ws_Mo_sizeOf : Cond.selects "MeshLinesModel" ⟨"MeshLinesModel", "sizeOf", "(I)I"⟩ ⟨"MeshLinesModel", "sizeOf", "(I)I"⟩ ∈ evW := List.mem_filter.mpr ⟨List.mem_append_left _ (by decide +kernel), by decide +kernel⟩
theorem cv_Mo_137 : ev_CV "MeshLinesModel" 137 11 M_Mo_sizeOf 1 := ⟨cb_Mo_sizeOf, w_829, w_831, ws_Mo_sizeOf, _, _, (ck_11).1⟩
theorem cs_Mo_140 : ev_CS "MeshLinesModel" 140 M_Mo_way 2 := ⟨cb_Mo_way, w_841, w_842⟩
theorem ws_Mo_served : Cond.selects "MeshLinesModel" ⟨"MeshLinesModel", "served", "(III)I"⟩ ⟨"MeshLinesModel", "served", "(III)I"⟩ ∈ evW := List.mem_filter.mpr ⟨List.mem_append_left _ (by decide +kernel), by decide +kernel⟩
theorem cv_Mo_144 : ev_CV "MeshLinesModel" 144 11 M_Mo_served 3 := ⟨cb_Mo_served, w_837, w_839, ws_Mo_served, _, _, (ck_11).1⟩
theorem cs_Mo_148 : ev_CS "MeshLinesModel" 148 M_Mo_neighbour 2 := ⟨cb_Mo_neighbour, w_844, w_845⟩
theorem ws_Mo_removeFront : Cond.selects "MeshLinesModel" ⟨"MeshLinesModel", "removeFront", "(I)V"⟩ ⟨"MeshLinesModel", "removeFront", "(I)V"⟩ ∈ evW := List.mem_filter.mpr ⟨List.mem_append_left _ (by decide +kernel), by decide +kernel⟩
theorem cv_Mo_151 : ev_CV "MeshLinesModel" 151 11 M_Mo_removeFront 1 := ⟨cb_Mo_removeFront, w_847, w_849, ws_Mo_removeFront, _, _, (ck_11).1⟩
theorem ws_Mo_finish : Cond.selects "MeshLinesModel" ⟨"MeshLinesModel", "finish", "(II)V"⟩ ⟨"MeshLinesModel", "finish", "(II)V"⟩ ∈ evW := List.mem_filter.mpr ⟨List.mem_append_left _ (by decide +kernel), by decide +kernel⟩
theorem cv_Mo_161 : ev_CV "MeshLinesModel" 161 11 M_Mo_finish 2 := ⟨cb_Mo_finish, w_905, w_907, ws_Mo_finish, _, _, (ck_11).1⟩
theorem ws_Mo_send : Cond.selects "MeshLinesModel" ⟨"MeshLinesModel", "send", "(IIIIIII)V"⟩ ⟨"MeshLinesModel", "send", "(IIIIIII)V"⟩ ∈ evW := List.mem_filter.mpr ⟨List.mem_append_left _ (by decide +kernel), by decide +kernel⟩
theorem cv_Mo_165 : ev_CV "MeshLinesModel" 165 11 M_Mo_send 7 := ⟨cb_Mo_send, w_867, w_869, ws_Mo_send, _, _, (ck_11).1⟩
theorem cs_Mo_169 : ev_CS "MeshLinesModel" 169 M_Mo_homeOf 1 := ⟨cb_Mo_homeOf, w_890, w_891⟩
theorem ws_Mo_become : Cond.selects "MeshLinesModel" ⟨"MeshLinesModel", "become", "(III)V"⟩ ⟨"MeshLinesModel", "become", "(III)V"⟩ ∈ evW := List.mem_filter.mpr ⟨List.mem_append_left _ (by decide +kernel), by decide +kernel⟩
theorem cv_Mo_172 : ev_CV "MeshLinesModel" 172 11 M_Mo_become 3 := ⟨cb_Mo_become, w_901, w_903, ws_Mo_become, _, _, (ck_11).1⟩
theorem ws_Mo_gone : Cond.selects "MeshLinesModel" ⟨"MeshLinesModel", "gone", "(II)V"⟩ ⟨"MeshLinesModel", "gone", "(II)V"⟩ ∈ evW := List.mem_filter.mpr ⟨List.mem_append_left _ (by decide +kernel), by decide +kernel⟩
theorem cv_Mo_175 : ev_CV "MeshLinesModel" 175 11 M_Mo_gone 2 := ⟨cb_Mo_gone, w_878, w_880, ws_Mo_gone, _, _, (ck_11).1⟩
theorem ws_Mo_gets : Cond.selects "MeshLinesModel" ⟨"MeshLinesModel", "gets", "(III)Z"⟩ ⟨"MeshLinesModel", "gets", "(III)Z"⟩ ∈ evW := List.mem_filter.mpr ⟨List.mem_append_left _ (by decide +kernel), by decide +kernel⟩
theorem cv_Mo_178 : ev_CV "MeshLinesModel" 178 11 M_Mo_gets 3 := ⟨cb_Mo_gets, w_863, w_865, ws_Mo_gets, _, _, (ck_11).1⟩
theorem ws_Mo_getm : Cond.selects "MeshLinesModel" ⟨"MeshLinesModel", "getm", "(III)Z"⟩ ⟨"MeshLinesModel", "getm", "(III)Z"⟩ ∈ evW := List.mem_filter.mpr ⟨List.mem_append_left _ (by decide +kernel), by decide +kernel⟩
theorem cv_Mo_182 : ev_CV "MeshLinesModel" 182 11 M_Mo_getm 3 := ⟨cb_Mo_getm, w_874, w_876, ws_Mo_getm, _, _, (ck_11).1⟩
theorem ws_Mo_putm : Cond.selects "MeshLinesModel" ⟨"MeshLinesModel", "putm", "(III)V"⟩ ⟨"MeshLinesModel", "putm", "(III)V"⟩ ∈ evW := List.mem_filter.mpr ⟨List.mem_append_left _ (by decide +kernel), by decide +kernel⟩
theorem cv_Mo_185 : ev_CV "MeshLinesModel" 185 11 M_Mo_putm 3 := ⟨cb_Mo_putm, w_882, w_884, ws_Mo_putm, _, _, (ck_11).1⟩
theorem ws_Mo_forward : Cond.selects "MeshLinesModel" ⟨"MeshLinesModel", "forward", "(IIZ)Z"⟩ ⟨"MeshLinesModel", "forward", "(IIZ)Z"⟩ ∈ evW := List.mem_filter.mpr ⟨List.mem_append_left _ (by decide +kernel), by decide +kernel⟩
theorem cv_Mo_188 : ev_CV "MeshLinesModel" 188 11 M_Mo_forward 3 := ⟨cb_Mo_forward, w_886, w_888, ws_Mo_forward, _, _, (ck_11).1⟩
theorem ws_Mo_invalidate : Cond.selects "MeshLinesModel" ⟨"MeshLinesModel", "invalidate", "(II)Z"⟩ ⟨"MeshLinesModel", "invalidate", "(II)Z"⟩ ∈ evW := List.mem_filter.mpr ⟨List.mem_append_left _ (by decide +kernel), by decide +kernel⟩
theorem cv_Mo_192 : ev_CV "MeshLinesModel" 192 11 M_Mo_invalidate 2 := ⟨cb_Mo_invalidate, w_893, w_895, ws_Mo_invalidate, _, _, (ck_11).1⟩
theorem ws_Mo_data : Cond.selects "MeshLinesModel" ⟨"MeshLinesModel", "data", "(II)V"⟩ ⟨"MeshLinesModel", "data", "(II)V"⟩ ∈ evW := List.mem_filter.mpr ⟨List.mem_append_left _ (by decide +kernel), by decide +kernel⟩
theorem cv_Mo_196 : ev_CV "MeshLinesModel" 196 11 M_Mo_data 2 := ⟨cb_Mo_data, w_897, w_899, ws_Mo_data, _, _, (ck_11).1⟩
theorem ws_Mo_acknowledged : Cond.selects "MeshLinesModel" ⟨"MeshLinesModel", "acknowledged", "(II)V"⟩ ⟨"MeshLinesModel", "acknowledged", "(II)V"⟩ ∈ evW := List.mem_filter.mpr ⟨List.mem_append_left _ (by decide +kernel), by decide +kernel⟩
theorem cv_Mo_199 : ev_CV "MeshLinesModel" 199 11 M_Mo_acknowledged 2 := ⟨cb_Mo_acknowledged, w_909, w_911, ws_Mo_acknowledged, _, _, (ck_11).1⟩
theorem ws_Mo_isBehind : Cond.selects "MeshLinesModel" ⟨"MeshLinesModel", "isBehind", "(II)Z"⟩ ⟨"MeshLinesModel", "isBehind", "(II)Z"⟩ ∈ evW := List.mem_filter.mpr ⟨List.mem_append_left _ (by decide +kernel), by decide +kernel⟩
theorem cv_Mo_202 : ev_CV "MeshLinesModel" 202 11 M_Mo_isBehind 2 := ⟨cb_Mo_isBehind, w_855, w_857, ws_Mo_isBehind, _, _, (ck_11).1⟩
theorem ws_Mo_takes : Cond.selects "MeshLinesModel" ⟨"MeshLinesModel", "takes", "(II)Z"⟩ ⟨"MeshLinesModel", "takes", "(II)Z"⟩ ∈ evW := List.mem_filter.mpr ⟨List.mem_append_left _ (by decide +kernel), by decide +kernel⟩
theorem cv_Mo_205 : ev_CV "MeshLinesModel" 205 11 M_Mo_takes 2 := ⟨cb_Mo_takes, w_859, w_861, ws_Mo_takes, _, _, (ck_11).1⟩
theorem cs_Mo_208 : ev_CS "MeshLinesModel" 208 M_Mo_isLeaving 1 := ⟨cb_Mo_isLeaving, w_921, w_922⟩
theorem ws_Mo_evict : Cond.selects "MeshLinesModel" ⟨"MeshLinesModel", "evict", "(II)V"⟩ ⟨"MeshLinesModel", "evict", "(II)V"⟩ ∈ evW := List.mem_filter.mpr ⟨List.mem_append_left _ (by decide +kernel), by decide +kernel⟩
theorem cv_Mo_212 : ev_CV "MeshLinesModel" 212 11 M_Mo_evict 2 := ⟨cb_Mo_evict, w_917, w_919, ws_Mo_evict, _, _, (ck_11).1⟩
theorem ws_Mo_inject : Cond.selects "MeshLinesModel" ⟨"MeshLinesModel", "inject", "(II)V"⟩ ⟨"MeshLinesModel", "inject", "(II)V"⟩ ∈ evW := List.mem_filter.mpr ⟨List.mem_append_left _ (by decide +kernel), by decide +kernel⟩
theorem cv_Mo_215 : ev_CV "MeshLinesModel" 215 11 M_Mo_inject 2 := ⟨cb_Mo_inject, w_821, w_823, ws_Mo_inject, _, _, (ck_11).1⟩
theorem ws_Mo_moves : Cond.selects "MeshLinesModel" ⟨"MeshLinesModel", "moves", "(III)Z"⟩ ⟨"MeshLinesModel", "moves", "(III)Z"⟩ ∈ evW := List.mem_filter.mpr ⟨List.mem_append_left _ (by decide +kernel), by decide +kernel⟩
theorem cv_Mo_218 : ev_CV "MeshLinesModel" 218 11 M_Mo_moves 3 := ⟨cb_Mo_moves, w_833, w_835, ws_Mo_moves, _, _, (ck_11).1⟩
theorem ws_Mo_takeFirst : Cond.selects "MeshLinesModel" ⟨"MeshLinesModel", "takeFirst", "(II)V"⟩ ⟨"MeshLinesModel", "takeFirst", "(II)V"⟩ ∈ evW := List.mem_filter.mpr ⟨List.mem_append_left _ (by decide +kernel), by decide +kernel⟩
theorem cv_Mo_221 : ev_CV "MeshLinesModel" 221 11 M_Mo_takeFirst 2 := ⟨cb_Mo_takeFirst, w_851, w_853, ws_Mo_takeFirst, _, _, (ck_11).1⟩
theorem ws_Mo_core : Cond.selects "MeshLinesModel" ⟨"MeshLinesModel", "core", "(I)V"⟩ ⟨"MeshLinesModel", "core", "(I)V"⟩ ∈ evW := List.mem_filter.mpr ⟨List.mem_append_left _ (by decide +kernel), by decide +kernel⟩
theorem cv_Mo_224 : ev_CV "MeshLinesModel" 224 11 M_Mo_core 1 := ⟨cb_Mo_core, w_913, w_915, ws_Mo_core, _, _, (ck_11).1⟩
theorem cs_Mo_227 : ev_CS "MeshLinesModel" 227 M_Mo_isNode 1 := ⟨cb_Mo_isNode, w_807, w_808⟩
theorem cs_Mo_230 : ev_CS "MeshLinesModel" 230 M_Mo_isLine 1 := ⟨cb_Mo_isLine, w_810, w_811⟩
theorem ws_Mo_oneCycle : Cond.selects "MeshLinesModel" ⟨"MeshLinesModel", "oneCycle", "()V"⟩ ⟨"MeshLinesModel", "oneCycle", "()V"⟩ ∈ evW := List.mem_filter.mpr ⟨List.mem_append_left _ (by decide +kernel), by decide +kernel⟩
theorem cv_Mo_233 : ev_CV "MeshLinesModel" 233 11 M_Mo_oneCycle 0 := ⟨cb_Mo_oneCycle, w_817, w_819, ws_Mo_oneCycle, _, _, (ck_11).1⟩
theorem ci_Al_1 : ev_CI "java/util/AbstractList" 1 M_Ac_init 0 := ⟨cb_Ac_init, w_60, w_61, rfl, rfl⟩
theorem ci_AL_1 : ev_CI "java/util/ArrayList" 1 M_Al_init 0 := ⟨cb_Al_init, w_57, w_58, rfl, rfl⟩
theorem cs_AL_66 : ev_CS "java/util/ArrayList" 66 M_Ar_copyOf2 2 := ⟨cb_Ar_copyOf2, w_431, w_432⟩
theorem ws_AL_grow1 : Cond.selects "java/util/ArrayList" ⟨"java/util/ArrayList", "grow", "(I)[Ljava/lang/Object;"⟩ ⟨"java/util/ArrayList", "grow", "(I)[Ljava/lang/Object;"⟩ ∈ evW := List.mem_filter.mpr ⟨List.mem_append_left _ (by decide +kernel), by decide +kernel⟩
theorem cv_AL_69 : ev_CV "java/util/ArrayList" 69 3 M_AL_grow1 1 := ⟨cb_AL_grow1, w_419, w_421, ws_AL_grow1, _, _, (ck_3).1⟩
theorem cs_AL_73 : ev_CS "java/util/ArrayList" 73 M_As_newLength 3 := ⟨cb_As_newLength, w_423, w_424⟩
theorem cs_AL_79 : ev_CS "java/util/ArrayList" 79 M_Ma_max 2 := ⟨cb_Ma_max, w_458, w_39⟩
theorem cs_AL_118 : ev_CS "java/util/ArrayList" 118 M_Os_checkIndex 2 := ⟨cb_Os_checkIndex, w_324, w_325⟩
theorem cv_AL_123 : ev_CV "java/util/ArrayList" 123 3 M_AL_elementData 1 := ⟨cb_AL_elementData, w_330, w_331, w_332, _, _, (ck_3).1⟩
theorem ws_AL_grow0 : Cond.selects "java/util/ArrayList" ⟨"java/util/ArrayList", "grow", "()[Ljava/lang/Object;"⟩ ⟨"java/util/ArrayList", "grow", "()[Ljava/lang/Object;"⟩ ∈ evW := List.mem_filter.mpr ⟨List.mem_append_left _ (by decide +kernel), by decide +kernel⟩
theorem cv_AL_129 : ev_CV "java/util/ArrayList" 129 3 M_AL_grow0 0 := ⟨cb_AL_grow0, w_415, w_417, ws_AL_grow0, _, _, (ck_3).1⟩
theorem ws_AL_add3 : Cond.selects "java/util/ArrayList" ⟨"java/util/ArrayList", "add", "(Ljava/lang/Object;[Ljava/lang/Object;I)V"⟩ ⟨"java/util/ArrayList", "add", "(Ljava/lang/Object;[Ljava/lang/Object;I)V"⟩ ∈ evW := List.mem_filter.mpr ⟨List.mem_append_left _ (by decide +kernel), by decide +kernel⟩
theorem cv_AL_131 : ev_CV "java/util/ArrayList" 131 3 M_AL_add3 3 := ⟨cb_AL_add3, w_411, w_413, ws_AL_add3, _, _, (ck_3).1⟩
theorem ws_AL_fastRemove : Cond.selects "java/util/ArrayList" ⟨"java/util/ArrayList", "fastRemove", "([Ljava/lang/Object;I)V"⟩ ⟨"java/util/ArrayList", "fastRemove", "([Ljava/lang/Object;I)V"⟩ ∈ evW := List.mem_filter.mpr ⟨List.mem_append_left _ (by decide +kernel), by decide +kernel⟩
theorem cv_AL_144 : ev_CV "java/util/ArrayList" 144 3 M_AL_fastRemove 2 := ⟨cb_AL_fastRemove, w_367, w_369, ws_AL_fastRemove, _, _, (ck_3).1⟩
theorem cs_Ar_300 : ev_CS "java/util/Arrays" 300 M_Ar_copyOf3 3 := ⟨cb_Ar_copyOf3, w_450, w_451⟩
theorem cs_Ar_304 : ev_CS "java/util/Arrays" 304 M_Ma_min 2 := ⟨cb_Ma_min, w_456, w_36⟩
theorem cs_Os_105 : ev_CS "java/util/Objects" 105 M_Pr_checkIndex 3 := ⟨cb_Pr_checkIndex, w_327, w_328⟩
theorem cs_As_194 : ev_CS "jdk/internal/util/ArraysSupport" 194 M_Ma_max 2 := ⟨cb_Ma_max, w_426, w_39⟩
theorem cs_As_201 : ev_CS "jdk/internal/util/ArraysSupport" 201 M_As_hugeLength 2 := ⟨cb_As_hugeLength, w_428, w_429⟩
end
