section
-- ===== PART A: goes FIRST, ahead of the names: the tables' words, and 'selects' of the private methods out of them =====
/-- a private method of a class that the tables say can be made, by its rows of tables_1 -/
def lw_okq (q : MethodName × Nat) : Prop := (q.1.cls ≠ "java/lang/invoke/MethodHandle" ∧ q.1.cls ≠ "java/lang/invoke/VarHandle") ∧ Cond.instantiable q.1.cls q.2 ∈ tables_1 ∧ Cond.privateMethod q.1 ∈ tables_1 ∧ Cond.instanceMethod q.1 ∈ tables_1
theorem lw_p0 : lw_okq (⟨"java/util/ArrayList", "fastRemove", "([Ljava/lang/Object;I)V"⟩, 3) := ⟨⟨by decide +kernel, by decide +kernel⟩, List.mem_of_getElem? (i := 53) (by decide +kernel), List.mem_of_getElem? (i := 368) (by decide +kernel), List.mem_of_getElem? (i := 369) (by decide +kernel)⟩
theorem lw_p1 : lw_okq (⟨"MeshLines$Mesh", "moveOneFlit", "(III)V"⟩, 5) := ⟨⟨by decide +kernel, by decide +kernel⟩, List.mem_of_getElem? (i := 31) (by decide +kernel), List.mem_of_getElem? (i := 379) (by decide +kernel), List.mem_of_getElem? (i := 380) (by decide +kernel)⟩
theorem lw_p2 : lw_okq (⟨"MeshLines$Mesh", "moveFlitOf", "(IIII)Z"⟩, 5) := ⟨⟨by decide +kernel, by decide +kernel⟩, List.mem_of_getElem? (i := 31) (by decide +kernel), List.mem_of_getElem? (i := 383) (by decide +kernel), List.mem_of_getElem? (i := 384) (by decide +kernel)⟩
theorem lw_p3 : lw_okq (⟨"MeshLines$Lane", "wayTo", "(I)I"⟩, 7) := ⟨⟨by decide +kernel, by decide +kernel⟩, List.mem_of_getElem? (i := 47) (by decide +kernel), List.mem_of_getElem? (i := 399) (by decide +kernel), List.mem_of_getElem? (i := 400) (by decide +kernel)⟩
theorem lw_p4 : lw_okq (⟨"MeshLines$Mesh", "leaveMesh", "(LMeshLines$Flit;LMeshLines$Lane;)V"⟩, 5) := ⟨⟨by decide +kernel, by decide +kernel⟩, List.mem_of_getElem? (i := 31) (by decide +kernel), List.mem_of_getElem? (i := 404) (by decide +kernel), List.mem_of_getElem? (i := 405) (by decide +kernel)⟩
theorem lw_p5 : lw_okq (⟨"java/util/ArrayList", "add", "(Ljava/lang/Object;[Ljava/lang/Object;I)V"⟩, 3) := ⟨⟨by decide +kernel, by decide +kernel⟩, List.mem_of_getElem? (i := 53) (by decide +kernel), List.mem_of_getElem? (i := 412) (by decide +kernel), List.mem_of_getElem? (i := 413) (by decide +kernel)⟩
theorem lw_p6 : lw_okq (⟨"java/util/ArrayList", "grow", "()[Ljava/lang/Object;"⟩, 3) := ⟨⟨by decide +kernel, by decide +kernel⟩, List.mem_of_getElem? (i := 53) (by decide +kernel), List.mem_of_getElem? (i := 416) (by decide +kernel), List.mem_of_getElem? (i := 417) (by decide +kernel)⟩
theorem lw_p7 : lw_okq (⟨"java/util/ArrayList", "grow", "(I)[Ljava/lang/Object;"⟩, 3) := ⟨⟨by decide +kernel, by decide +kernel⟩, List.mem_of_getElem? (i := 53) (by decide +kernel), List.mem_of_getElem? (i := 420) (by decide +kernel), List.mem_of_getElem? (i := 421) (by decide +kernel)⟩
theorem lw_p8 : lw_okq (⟨"MeshLines$Mesh", "bufferBeyond", "(III)LMeshLines$FlitBuffer;"⟩, 5) := ⟨⟨by decide +kernel, by decide +kernel⟩, List.mem_of_getElem? (i := 31) (by decide +kernel), List.mem_of_getElem? (i := 461) (by decide +kernel), List.mem_of_getElem? (i := 462) (by decide +kernel)⟩
theorem lw_p9 : lw_okq (⟨"MeshLines$Node", "firstToTake", "(Ljava/util/ArrayList;)I"⟩, 5) := ⟨⟨by decide +kernel, by decide +kernel⟩, List.mem_of_getElem? (i := 183) (by decide +kernel), List.mem_of_getElem? (i := 480) (by decide +kernel), List.mem_of_getElem? (i := 481) (by decide +kernel)⟩
theorem lw_p10 : lw_okq (⟨"MeshLines$Node", "stalls", "(LMeshLines$Packet;)Z"⟩, 5) := ⟨⟨by decide +kernel, by decide +kernel⟩, List.mem_of_getElem? (i := 183) (by decide +kernel), List.mem_of_getElem? (i := 490) (by decide +kernel), List.mem_of_getElem? (i := 491) (by decide +kernel)⟩
theorem lw_p11 : lw_okq (⟨"MeshLines$Node", "take", "(LMeshLines$Packet;I)V"⟩, 5) := ⟨⟨by decide +kernel, by decide +kernel⟩, List.mem_of_getElem? (i := 183) (by decide +kernel), List.mem_of_getElem? (i := 507) (by decide +kernel), List.mem_of_getElem? (i := 508) (by decide +kernel)⟩
theorem lw_p12 : lw_okq (⟨"MeshLines$Home", "takeGets", "(I)V"⟩, 7) := ⟨⟨by decide +kernel, by decide +kernel⟩, List.mem_of_getElem? (i := 147) (by decide +kernel), List.mem_of_getElem? (i := 515) (by decide +kernel), List.mem_of_getElem? (i := 516) (by decide +kernel)⟩
theorem lw_p13 : lw_okq (⟨"MeshLines$Home", "takeGetm", "(I)V"⟩, 7) := ⟨⟨by decide +kernel, by decide +kernel⟩, List.mem_of_getElem? (i := 147) (by decide +kernel), List.mem_of_getElem? (i := 566) (by decide +kernel), List.mem_of_getElem? (i := 567) (by decide +kernel)⟩
theorem lw_p14 : lw_okq (⟨"MeshLines$Home", "takePuts", "(I)V"⟩, 7) := ⟨⟨by decide +kernel, by decide +kernel⟩, List.mem_of_getElem? (i := 147) (by decide +kernel), List.mem_of_getElem? (i := 576) (by decide +kernel), List.mem_of_getElem? (i := 577) (by decide +kernel)⟩
theorem lw_p15 : lw_okq (⟨"MeshLines$Home", "dropSharer", "(I)V"⟩, 7) := ⟨⟨by decide +kernel, by decide +kernel⟩, List.mem_of_getElem? (i := 147) (by decide +kernel), List.mem_of_getElem? (i := 580) (by decide +kernel), List.mem_of_getElem? (i := 581) (by decide +kernel)⟩
def lw_privs_1 : List (MethodName × Nat) := [(⟨"java/util/ArrayList", "fastRemove", "([Ljava/lang/Object;I)V"⟩, 3), (⟨"MeshLines$Mesh", "moveOneFlit", "(III)V"⟩, 5), (⟨"MeshLines$Mesh", "moveFlitOf", "(IIII)Z"⟩, 5), (⟨"MeshLines$Lane", "wayTo", "(I)I"⟩, 7), (⟨"MeshLines$Mesh", "leaveMesh", "(LMeshLines$Flit;LMeshLines$Lane;)V"⟩, 5), (⟨"java/util/ArrayList", "add", "(Ljava/lang/Object;[Ljava/lang/Object;I)V"⟩, 3), (⟨"java/util/ArrayList", "grow", "()[Ljava/lang/Object;"⟩, 3), (⟨"java/util/ArrayList", "grow", "(I)[Ljava/lang/Object;"⟩, 3), (⟨"MeshLines$Mesh", "bufferBeyond", "(III)LMeshLines$FlitBuffer;"⟩, 5), (⟨"MeshLines$Node", "firstToTake", "(Ljava/util/ArrayList;)I"⟩, 5), (⟨"MeshLines$Node", "stalls", "(LMeshLines$Packet;)Z"⟩, 5), (⟨"MeshLines$Node", "take", "(LMeshLines$Packet;I)V"⟩, 5), (⟨"MeshLines$Home", "takeGets", "(I)V"⟩, 7), (⟨"MeshLines$Home", "takeGetm", "(I)V"⟩, 7), (⟨"MeshLines$Home", "takePuts", "(I)V"⟩, 7), (⟨"MeshLines$Home", "dropSharer", "(I)V"⟩, 7)]
theorem lw_r1 : ∀ q ∈ lw_privs_1, lw_okq q := List.forall_mem_cons.mpr ⟨lw_p0, List.forall_mem_cons.mpr ⟨lw_p1, List.forall_mem_cons.mpr ⟨lw_p2, List.forall_mem_cons.mpr ⟨lw_p3, List.forall_mem_cons.mpr ⟨lw_p4, List.forall_mem_cons.mpr ⟨lw_p5, List.forall_mem_cons.mpr ⟨lw_p6, List.forall_mem_cons.mpr ⟨lw_p7, List.forall_mem_cons.mpr ⟨lw_p8, List.forall_mem_cons.mpr ⟨lw_p9, List.forall_mem_cons.mpr ⟨lw_p10, List.forall_mem_cons.mpr ⟨lw_p11, List.forall_mem_cons.mpr ⟨lw_p12, List.forall_mem_cons.mpr ⟨lw_p13, List.forall_mem_cons.mpr ⟨lw_p14, List.forall_mem_cons.mpr ⟨lw_p15, fun _ h => absurd h List.not_mem_nil⟩⟩⟩⟩⟩⟩⟩⟩⟩⟩⟩⟩⟩⟩⟩⟩
theorem lw_p16 : lw_okq (⟨"MeshLines$Home", "takePutm", "(II)V"⟩, 7) := ⟨⟨by decide +kernel, by decide +kernel⟩, List.mem_of_getElem? (i := 147) (by decide +kernel), List.mem_of_getElem? (i := 584) (by decide +kernel), List.mem_of_getElem? (i := 585) (by decide +kernel)⟩
theorem lw_p17 : lw_okq (⟨"MeshLines$Cache", "takeData", "(LMeshLines$Packet;)Z"⟩, 6) := ⟨⟨by decide +kernel, by decide +kernel⟩, List.mem_of_getElem? (i := 189) (by decide +kernel), List.mem_of_getElem? (i := 592) (by decide +kernel), List.mem_of_getElem? (i := 593) (by decide +kernel)⟩
theorem lw_p18 : lw_okq (⟨"MeshLines$Cache", "takeAck", "(I)Z"⟩, 6) := ⟨⟨by decide +kernel, by decide +kernel⟩, List.mem_of_getElem? (i := 189) (by decide +kernel), List.mem_of_getElem? (i := 596) (by decide +kernel), List.mem_of_getElem? (i := 597) (by decide +kernel)⟩
theorem lw_p19 : lw_okq (⟨"MeshLines$Cache", "takeInv", "(LMeshLines$Packet;)V"⟩, 6) := ⟨⟨by decide +kernel, by decide +kernel⟩, List.mem_of_getElem? (i := 189) (by decide +kernel), List.mem_of_getElem? (i := 600) (by decide +kernel), List.mem_of_getElem? (i := 601) (by decide +kernel)⟩
theorem lw_p20 : lw_okq (⟨"MeshLines$Cache", "become", "(II)V"⟩, 6) := ⟨⟨by decide +kernel, by decide +kernel⟩, List.mem_of_getElem? (i := 189) (by decide +kernel), List.mem_of_getElem? (i := 604) (by decide +kernel), List.mem_of_getElem? (i := 605) (by decide +kernel)⟩
theorem lw_p21 : lw_okq (⟨"MeshLines$Cache", "giveData", "(III)V"⟩, 6) := ⟨⟨by decide +kernel, by decide +kernel⟩, List.mem_of_getElem? (i := 189) (by decide +kernel), List.mem_of_getElem? (i := 609) (by decide +kernel), List.mem_of_getElem? (i := 610) (by decide +kernel)⟩
theorem lw_p22 : lw_okq (⟨"MeshLines$Core", "fetch", "(IZ)V"⟩, 9) := ⟨⟨by decide +kernel, by decide +kernel⟩, List.mem_of_getElem? (i := 221) (by decide +kernel), List.mem_of_getElem? (i := 627) (by decide +kernel), List.mem_of_getElem? (i := 628) (by decide +kernel)⟩
theorem lw_p23 : lw_okq (⟨"MeshLinesModel", "oneCycle", "()V"⟩, 41) := ⟨⟨by decide +kernel, by decide +kernel⟩, List.mem_of_getElem? (i := 673) (by decide +kernel), List.mem_of_getElem? (i := 818) (by decide +kernel), List.mem_of_getElem? (i := 819) (by decide +kernel)⟩
theorem lw_p24 : lw_okq (⟨"MeshLinesModel", "inject", "(II)V"⟩, 41) := ⟨⟨by decide +kernel, by decide +kernel⟩, List.mem_of_getElem? (i := 673) (by decide +kernel), List.mem_of_getElem? (i := 822) (by decide +kernel), List.mem_of_getElem? (i := 823) (by decide +kernel)⟩
theorem lw_p25 : lw_okq (⟨"MeshLinesModel", "append", "(III)V"⟩, 41) := ⟨⟨by decide +kernel, by decide +kernel⟩, List.mem_of_getElem? (i := 673) (by decide +kernel), List.mem_of_getElem? (i := 826) (by decide +kernel), List.mem_of_getElem? (i := 827) (by decide +kernel)⟩
theorem lw_p26 : lw_okq (⟨"MeshLinesModel", "sizeOf", "(I)I"⟩, 41) := ⟨⟨by decide +kernel, by decide +kernel⟩, List.mem_of_getElem? (i := 673) (by decide +kernel), List.mem_of_getElem? (i := 830) (by decide +kernel), List.mem_of_getElem? (i := 831) (by decide +kernel)⟩
theorem lw_p27 : lw_okq (⟨"MeshLinesModel", "moves", "(III)Z"⟩, 41) := ⟨⟨by decide +kernel, by decide +kernel⟩, List.mem_of_getElem? (i := 673) (by decide +kernel), List.mem_of_getElem? (i := 834) (by decide +kernel), List.mem_of_getElem? (i := 835) (by decide +kernel)⟩
theorem lw_p28 : lw_okq (⟨"MeshLinesModel", "served", "(III)I"⟩, 41) := ⟨⟨by decide +kernel, by decide +kernel⟩, List.mem_of_getElem? (i := 673) (by decide +kernel), List.mem_of_getElem? (i := 838) (by decide +kernel), List.mem_of_getElem? (i := 839) (by decide +kernel)⟩
theorem lw_p29 : lw_okq (⟨"MeshLinesModel", "removeFront", "(I)V"⟩, 41) := ⟨⟨by decide +kernel, by decide +kernel⟩, List.mem_of_getElem? (i := 673) (by decide +kernel), List.mem_of_getElem? (i := 848) (by decide +kernel), List.mem_of_getElem? (i := 849) (by decide +kernel)⟩
theorem lw_p30 : lw_okq (⟨"MeshLinesModel", "takeFirst", "(II)V"⟩, 41) := ⟨⟨by decide +kernel, by decide +kernel⟩, List.mem_of_getElem? (i := 673) (by decide +kernel), List.mem_of_getElem? (i := 852) (by decide +kernel), List.mem_of_getElem? (i := 853) (by decide +kernel)⟩
theorem lw_p31 : lw_okq (⟨"MeshLinesModel", "isBehind", "(II)Z"⟩, 41) := ⟨⟨by decide +kernel, by decide +kernel⟩, List.mem_of_getElem? (i := 673) (by decide +kernel), List.mem_of_getElem? (i := 856) (by decide +kernel), List.mem_of_getElem? (i := 857) (by decide +kernel)⟩
def lw_privs_2 : List (MethodName × Nat) := [(⟨"MeshLines$Home", "takePutm", "(II)V"⟩, 7), (⟨"MeshLines$Cache", "takeData", "(LMeshLines$Packet;)Z"⟩, 6), (⟨"MeshLines$Cache", "takeAck", "(I)Z"⟩, 6), (⟨"MeshLines$Cache", "takeInv", "(LMeshLines$Packet;)V"⟩, 6), (⟨"MeshLines$Cache", "become", "(II)V"⟩, 6), (⟨"MeshLines$Cache", "giveData", "(III)V"⟩, 6), (⟨"MeshLines$Core", "fetch", "(IZ)V"⟩, 9), (⟨"MeshLinesModel", "oneCycle", "()V"⟩, 41), (⟨"MeshLinesModel", "inject", "(II)V"⟩, 41), (⟨"MeshLinesModel", "append", "(III)V"⟩, 41), (⟨"MeshLinesModel", "sizeOf", "(I)I"⟩, 41), (⟨"MeshLinesModel", "moves", "(III)Z"⟩, 41), (⟨"MeshLinesModel", "served", "(III)I"⟩, 41), (⟨"MeshLinesModel", "removeFront", "(I)V"⟩, 41), (⟨"MeshLinesModel", "takeFirst", "(II)V"⟩, 41), (⟨"MeshLinesModel", "isBehind", "(II)Z"⟩, 41)]
theorem lw_r2 : ∀ q ∈ lw_privs_2, lw_okq q := List.forall_mem_cons.mpr ⟨lw_p16, List.forall_mem_cons.mpr ⟨lw_p17, List.forall_mem_cons.mpr ⟨lw_p18, List.forall_mem_cons.mpr ⟨lw_p19, List.forall_mem_cons.mpr ⟨lw_p20, List.forall_mem_cons.mpr ⟨lw_p21, List.forall_mem_cons.mpr ⟨lw_p22, List.forall_mem_cons.mpr ⟨lw_p23, List.forall_mem_cons.mpr ⟨lw_p24, List.forall_mem_cons.mpr ⟨lw_p25, List.forall_mem_cons.mpr ⟨lw_p26, List.forall_mem_cons.mpr ⟨lw_p27, List.forall_mem_cons.mpr ⟨lw_p28, List.forall_mem_cons.mpr ⟨lw_p29, List.forall_mem_cons.mpr ⟨lw_p30, List.forall_mem_cons.mpr ⟨lw_p31, fun _ h => absurd h List.not_mem_nil⟩⟩⟩⟩⟩⟩⟩⟩⟩⟩⟩⟩⟩⟩⟩⟩
theorem lw_p32 : lw_okq (⟨"MeshLinesModel", "takes", "(II)Z"⟩, 41) := ⟨⟨by decide +kernel, by decide +kernel⟩, List.mem_of_getElem? (i := 673) (by decide +kernel), List.mem_of_getElem? (i := 860) (by decide +kernel), List.mem_of_getElem? (i := 861) (by decide +kernel)⟩
theorem lw_p33 : lw_okq (⟨"MeshLinesModel", "gets", "(III)Z"⟩, 41) := ⟨⟨by decide +kernel, by decide +kernel⟩, List.mem_of_getElem? (i := 673) (by decide +kernel), List.mem_of_getElem? (i := 864) (by decide +kernel), List.mem_of_getElem? (i := 865) (by decide +kernel)⟩
theorem lw_p34 : lw_okq (⟨"MeshLinesModel", "send", "(IIIIIII)V"⟩, 41) := ⟨⟨by decide +kernel, by decide +kernel⟩, List.mem_of_getElem? (i := 673) (by decide +kernel), List.mem_of_getElem? (i := 868) (by decide +kernel), List.mem_of_getElem? (i := 869) (by decide +kernel)⟩
theorem lw_p35 : lw_okq (⟨"MeshLinesModel", "getm", "(III)Z"⟩, 41) := ⟨⟨by decide +kernel, by decide +kernel⟩, List.mem_of_getElem? (i := 673) (by decide +kernel), List.mem_of_getElem? (i := 875) (by decide +kernel), List.mem_of_getElem? (i := 876) (by decide +kernel)⟩
theorem lw_p36 : lw_okq (⟨"MeshLinesModel", "gone", "(II)V"⟩, 41) := ⟨⟨by decide +kernel, by decide +kernel⟩, List.mem_of_getElem? (i := 673) (by decide +kernel), List.mem_of_getElem? (i := 879) (by decide +kernel), List.mem_of_getElem? (i := 880) (by decide +kernel)⟩
theorem lw_p37 : lw_okq (⟨"MeshLinesModel", "putm", "(III)V"⟩, 41) := ⟨⟨by decide +kernel, by decide +kernel⟩, List.mem_of_getElem? (i := 673) (by decide +kernel), List.mem_of_getElem? (i := 883) (by decide +kernel), List.mem_of_getElem? (i := 884) (by decide +kernel)⟩
theorem lw_p38 : lw_okq (⟨"MeshLinesModel", "forward", "(IIZ)Z"⟩, 41) := ⟨⟨by decide +kernel, by decide +kernel⟩, List.mem_of_getElem? (i := 673) (by decide +kernel), List.mem_of_getElem? (i := 887) (by decide +kernel), List.mem_of_getElem? (i := 888) (by decide +kernel)⟩
theorem lw_p39 : lw_okq (⟨"MeshLinesModel", "invalidate", "(II)Z"⟩, 41) := ⟨⟨by decide +kernel, by decide +kernel⟩, List.mem_of_getElem? (i := 673) (by decide +kernel), List.mem_of_getElem? (i := 894) (by decide +kernel), List.mem_of_getElem? (i := 895) (by decide +kernel)⟩
theorem lw_p40 : lw_okq (⟨"MeshLinesModel", "data", "(II)V"⟩, 41) := ⟨⟨by decide +kernel, by decide +kernel⟩, List.mem_of_getElem? (i := 673) (by decide +kernel), List.mem_of_getElem? (i := 898) (by decide +kernel), List.mem_of_getElem? (i := 899) (by decide +kernel)⟩
theorem lw_p41 : lw_okq (⟨"MeshLinesModel", "become", "(III)V"⟩, 41) := ⟨⟨by decide +kernel, by decide +kernel⟩, List.mem_of_getElem? (i := 673) (by decide +kernel), List.mem_of_getElem? (i := 902) (by decide +kernel), List.mem_of_getElem? (i := 903) (by decide +kernel)⟩
theorem lw_p42 : lw_okq (⟨"MeshLinesModel", "finish", "(II)V"⟩, 41) := ⟨⟨by decide +kernel, by decide +kernel⟩, List.mem_of_getElem? (i := 673) (by decide +kernel), List.mem_of_getElem? (i := 906) (by decide +kernel), List.mem_of_getElem? (i := 907) (by decide +kernel)⟩
theorem lw_p43 : lw_okq (⟨"MeshLinesModel", "acknowledged", "(II)V"⟩, 41) := ⟨⟨by decide +kernel, by decide +kernel⟩, List.mem_of_getElem? (i := 673) (by decide +kernel), List.mem_of_getElem? (i := 910) (by decide +kernel), List.mem_of_getElem? (i := 911) (by decide +kernel)⟩
theorem lw_p44 : lw_okq (⟨"MeshLinesModel", "core", "(I)V"⟩, 41) := ⟨⟨by decide +kernel, by decide +kernel⟩, List.mem_of_getElem? (i := 673) (by decide +kernel), List.mem_of_getElem? (i := 914) (by decide +kernel), List.mem_of_getElem? (i := 915) (by decide +kernel)⟩
theorem lw_p45 : lw_okq (⟨"MeshLinesModel", "evict", "(II)V"⟩, 41) := ⟨⟨by decide +kernel, by decide +kernel⟩, List.mem_of_getElem? (i := 673) (by decide +kernel), List.mem_of_getElem? (i := 918) (by decide +kernel), List.mem_of_getElem? (i := 919) (by decide +kernel)⟩
def lw_privs_3 : List (MethodName × Nat) := [(⟨"MeshLinesModel", "takes", "(II)Z"⟩, 41), (⟨"MeshLinesModel", "gets", "(III)Z"⟩, 41), (⟨"MeshLinesModel", "send", "(IIIIIII)V"⟩, 41), (⟨"MeshLinesModel", "getm", "(III)Z"⟩, 41), (⟨"MeshLinesModel", "gone", "(II)V"⟩, 41), (⟨"MeshLinesModel", "putm", "(III)V"⟩, 41), (⟨"MeshLinesModel", "forward", "(IIZ)Z"⟩, 41), (⟨"MeshLinesModel", "invalidate", "(II)Z"⟩, 41), (⟨"MeshLinesModel", "data", "(II)V"⟩, 41), (⟨"MeshLinesModel", "become", "(III)V"⟩, 41), (⟨"MeshLinesModel", "finish", "(II)V"⟩, 41), (⟨"MeshLinesModel", "acknowledged", "(II)V"⟩, 41), (⟨"MeshLinesModel", "core", "(I)V"⟩, 41), (⟨"MeshLinesModel", "evict", "(II)V"⟩, 41)]
theorem lw_r3 : ∀ q ∈ lw_privs_3, lw_okq q := List.forall_mem_cons.mpr ⟨lw_p32, List.forall_mem_cons.mpr ⟨lw_p33, List.forall_mem_cons.mpr ⟨lw_p34, List.forall_mem_cons.mpr ⟨lw_p35, List.forall_mem_cons.mpr ⟨lw_p36, List.forall_mem_cons.mpr ⟨lw_p37, List.forall_mem_cons.mpr ⟨lw_p38, List.forall_mem_cons.mpr ⟨lw_p39, List.forall_mem_cons.mpr ⟨lw_p40, List.forall_mem_cons.mpr ⟨lw_p41, List.forall_mem_cons.mpr ⟨lw_p42, List.forall_mem_cons.mpr ⟨lw_p43, List.forall_mem_cons.mpr ⟨lw_p44, List.forall_mem_cons.mpr ⟨lw_p45, fun _ h => absurd h List.not_mem_nil⟩⟩⟩⟩⟩⟩⟩⟩⟩⟩⟩⟩⟩⟩
def lw_privs : List (MethodName × Nat) := lw_privs_1 ++ (lw_privs_2 ++ (lw_privs_3))
def lw_tbl : List Cond := k2_sels lw_privs ++ tables_1
theorem lw_privs_ok : ∀ q ∈ lw_privs, lw_okq q := by
  show ∀ q ∈ lw_privs_1 ++ (lw_privs_2 ++ (lw_privs_3)), lw_okq q
  exact List.forall_mem_append.mpr ⟨lw_r1, List.forall_mem_append.mpr ⟨lw_r2, lw_r3⟩⟩
end
section
def C_0 : String := "MeshLines"
def F_0 : u_T := fun k => match k with
  | 0 => ("MeshLines", "mesh", "LMeshLines$Mesh;", true)
  | 1 => ("MeshLines", "homes", "[LMeshLines$Home;", true)
  | 2 => ("MeshLines", "nodes", "[LMeshLines$Node;", true)
  | _ => ("MeshLines", "cycle", "I", false)
def C_1 : String := "MeshLines$Mesh"
def F_1 : u_T := fun k => match k with
  | 0 => ("MeshLines$Mesh", "lanes", "[LMeshLines$Lane;", true)
  | 1 => ("MeshLines$Mesh", "flits", "I", true)
  | 2 => ("MeshLines$Mesh", "sent", "I", false)
  | 3 => ("MeshLines$Mesh", "arrived", "I", false)
  | _ => ("MeshLines$Mesh", "overLinks", "I", false)
def C_2 : String := "MeshLines$Lane"
def F_2 : u_T := fun k => match k with
  | 0 => ("MeshLines$Lane", "node", "I", true)
  | 1 => ("MeshLines$Lane", "row", "Ljava/util/ArrayList;", true)
  | 2 => ("MeshLines$Lane", "inbox", "Ljava/util/ArrayList;", true)
  | 3 => ("MeshLines$Lane", "buffers", "[LMeshLines$FlitBuffer;", true)
  | 4 => ("MeshLines$Lane", "holders", "[I", true)
  | 5 => ("MeshLines$Lane", "last", "[I", true)
  | _ => ("MeshLines$Lane", "entered", "I", false)
def C_3 : String := "java/util/ArrayList"
def F_3 : u_T := fun k => match k with
  | 0 => ("java/util/ArrayList", "elementData", "[Ljava/lang/Object;", false)
  | 1 => ("java/util/ArrayList", "size", "I", false)
  | _ => ("java/util/AbstractList", "modCount", "I", false)
def C_4 : String := "MeshLines$FlitBuffer"
def F_4 : u_T := fun k => match k with
  | 0 => ("MeshLines$FlitBuffer", "flits", "[LMeshLines$Flit;", true)
  | _ => ("MeshLines$FlitBuffer", "size", "I", false)
def C_5 : String := "MeshLines$Home"
def F_5 : u_T := fun k => match k with
  | 0 => ("MeshLines$Home", "line", "I", true)
  | 1 => ("MeshLines$Home", "node", "I", true)
  | 2 => ("MeshLines$Home", "mesh", "LMeshLines$Mesh;", true)
  | 3 => ("MeshLines$Home", "state", "I", false)
  | 4 => ("MeshLines$Home", "owner", "I", false)
  | 5 => ("MeshLines$Home", "sharers", "I", false)
  | _ => ("MeshLines$Home", "value", "I", false)
def C_6 : String := "MeshLines$Node"
def F_6 : u_T := fun k => match k with
  | 0 => ("MeshLines$Node", "number", "I", true)
  | 1 => ("MeshLines$Node", "mesh", "LMeshLines$Mesh;", true)
  | 2 => ("MeshLines$Node", "homes", "[LMeshLines$Home;", true)
  | 3 => ("MeshLines$Node", "cache", "LMeshLines$Cache;", true)
  | _ => ("MeshLines$Node", "core", "LMeshLines$Core;", true)
def C_7 : String := "MeshLines$Cache"
def F_7 : u_T := fun k => match k with
  | 0 => ("MeshLines$Cache", "node", "I", true)
  | 1 => ("MeshLines$Cache", "mesh", "LMeshLines$Mesh;", true)
  | 2 => ("MeshLines$Cache", "states", "[I", true)
  | 3 => ("MeshLines$Cache", "values", "[I", true)
  | 4 => ("MeshLines$Cache", "needs", "[I", true)
  | _ => ("MeshLines$Cache", "used", "[I", true)
def C_8 : String := "MeshLines$Core"
def F_8 : u_T := fun k => match k with
  | 0 => ("MeshLines$Core", "cache", "LMeshLines$Cache;", true)
  | 1 => ("MeshLines$Core", "kinds", "[I", true)
  | 2 => ("MeshLines$Core", "lines", "[I", true)
  | 3 => ("MeshLines$Core", "values", "[I", true)
  | 4 => ("MeshLines$Core", "delays", "[I", true)
  | 5 => ("MeshLines$Core", "results", "[I", true)
  | 6 => ("MeshLines$Core", "total", "I", false)
  | 7 => ("MeshLines$Core", "finished", "I", false)
  | _ => ("MeshLines$Core", "finishedIn", "I", false)
def C_9 : String := "MeshLines$Flit"
def F_9 : u_T := fun k => match k with
  | 0 => ("MeshLines$Flit", "packet", "LMeshLines$Packet;", true)
  | 1 => ("MeshLines$Flit", "isHead", "Z", true)
  | 2 => ("MeshLines$Flit", "isLast", "Z", true)
  | _ => ("MeshLines$Flit", "cameIn", "I", false)
def C_10 : String := "MeshLines$Packet"
def F_10 : u_T := fun k => match k with
  | 0 => ("MeshLines$Packet", "kind", "I", true)
  | 1 => ("MeshLines$Packet", "line", "I", true)
  | 2 => ("MeshLines$Packet", "destination", "I", true)
  | 3 => ("MeshLines$Packet", "asker", "I", true)
  | 4 => ("MeshLines$Packet", "value", "I", true)
  | 5 => ("MeshLines$Packet", "acks", "I", true)
  | _ => ("MeshLines$Packet", "length", "I", true)
def C_11 : String := "MeshLinesModel"
def F_11 : u_T := fun k => match k with
  | 0 => ("MeshLinesModel", "depth", "I", true)
  | 1 => ("MeshLinesModel", "flits", "I", true)
  | 2 => ("MeshLinesModel", "cycle", "I", false)
  | 3 => ("MeshLinesModel", "live", "[Z", false)
  | 4 => ("MeshLinesModel", "kind", "[I", false)
  | 5 => ("MeshLinesModel", "line", "[I", false)
  | 6 => ("MeshLinesModel", "to", "[I", false)
  | 7 => ("MeshLinesModel", "sender", "[I", false)
  | 8 => ("MeshLinesModel", "asker", "[I", false)
  | 9 => ("MeshLinesModel", "value", "[I", false)
  | 10 => ("MeshLinesModel", "acks", "[I", false)
  | 11 => ("MeshLinesModel", "row", "[I", false)
  | 12 => ("MeshLinesModel", "rowCount", "[I", false)
  | 13 => ("MeshLinesModel", "given", "[I", false)
  | 14 => ("MeshLinesModel", "inbox", "[I", false)
  | 15 => ("MeshLinesModel", "inCount", "[I", false)
  | 16 => ("MeshLinesModel", "flitOf", "[I", false)
  | 17 => ("MeshLinesModel", "flitNumber", "[I", false)
  | 18 => ("MeshLinesModel", "cameIn", "[I", false)
  | 19 => ("MeshLinesModel", "bufferCount", "[I", false)
  | 20 => ("MeshLinesModel", "holder", "[I", false)
  | 21 => ("MeshLinesModel", "lastPort", "[I", false)
  | 22 => ("MeshLinesModel", "state", "[I", false)
  | 23 => ("MeshLinesModel", "copy", "[I", false)
  | 24 => ("MeshLinesModel", "needs", "[I", false)
  | 25 => ("MeshLinesModel", "usedAt", "[I", false)
  | 26 => ("MeshLinesModel", "homeState", "[I", false)
  | 27 => ("MeshLinesModel", "memory", "[I", false)
  | 28 => ("MeshLinesModel", "owner", "[I", false)
  | 29 => ("MeshLinesModel", "sharers", "[I", false)
  | 30 => ("MeshLinesModel", "opKind", "[I", false)
  | 31 => ("MeshLinesModel", "opLine", "[I", false)
  | 32 => ("MeshLinesModel", "opValue", "[I", false)
  | 33 => ("MeshLinesModel", "opDelay", "[I", false)
  | 34 => ("MeshLinesModel", "results", "[I", false)
  | 35 => ("MeshLinesModel", "operations", "[I", false)
  | 36 => ("MeshLinesModel", "doneCount", "[I", false)
  | 37 => ("MeshLinesModel", "rests", "[Z", false)
  | 38 => ("MeshLinesModel", "sent", "I", false)
  | 39 => ("MeshLinesModel", "arrived", "I", false)
  | _ => ("MeshLinesModel", "crossed", "I", false)
def evC : List vw_C := [(C_0, F_0, 4), (C_1, F_1, 5), (C_2, F_2, 7), (C_3, F_3, 3), (C_4, F_4, 2), (C_5, F_5, 7), (C_6, F_6, 5), (C_7, F_7, 6), (C_8, F_8, 9), (C_9, F_9, 4), (C_10, F_10, 7), (C_11, F_11, 41)]
def evN (c : Nat) : Nat := ((evC[c]?).map (fun q => q.2.2)).getD 0
-- 0 an int, 1 a boolean, 2 a reference
def evFl : List (List Nat) := [[2, 2, 2, 0], [2, 0, 0, 0, 0], [0, 2, 2, 2, 2, 2, 0], [2, 0, 0], [2, 0], [0, 0, 2, 0, 0, 0, 0], [0, 2, 2, 2, 2], [0, 2, 2, 2, 2, 2], [2, 2, 2, 2, 2, 2, 0, 0, 0], [2, 1, 1, 0], [0, 0, 0, 0, 0, 0, 0], [0, 0, 0, 2, 2, 2, 2, 2, 2, 2, 2, 2, 2, 2, 2, 2, 2, 2, 2, 2, 2, 2, 2, 2, 2, 2, 2, 2, 2, 2, 2, 2, 2, 2, 2, 2, 2, 2, 0, 0, 0]]
def evF (c k : Nat) : Nat := (evFl.getD c []).getD k 0
def evB (c k : Nat) : Bool := evF c k == 2
def evTy (t : Nat) : FieldType := match t with
  | 50 => .int
  | 51 => .boolean
  | 52 => .object "java/lang/Object"
  | 53 => .object "MeshLines$Home"
  | 54 => .object "MeshLines$Node"
  | 55 => .object "MeshLines$Lane"
  | 56 => .object "MeshLines$FlitBuffer"
  | _ => .object "MeshLines$Flit"
def evW : List Cond := lw_tbl.filter (fun w => k2_isCode w || goodWord w)
theorem evW_good (w : Cond) (hw : w ∈ evW) : (w.onTables && w.keeps) = true ∨ ∃ ty, w = .arrayClass ty := by
  have h := (List.mem_filter.mp hw).2
  rcases Bool.or_eq_true_iff.mp h with hc | hg
  · cases w <;> first | (simp [k2_isCode] at hc; done) | exact Or.inl rfl
  · exact good_of_word hg
def ev_X (U : State) : Prop := va_Nw (.methodLinkNest "MeshLines$Home" 21 ⟨"MeshLines", "homeOf", "(I)I"⟩ "MeshLines") U ∧ va_Nw (.methodLinkNest "MeshLines$Cache" 63 ⟨"MeshLines", "homeOf", "(I)I"⟩ "MeshLines") U ∧ va_Nw (.castable "MeshLines$Packet" "java/lang/Object") U ∧ va_AO "java/lang/Object" U ∧ va_AO "MeshLines$Home" U ∧ va_AO "MeshLines$Node" U ∧ va_AO "MeshLines$Lane" U ∧ va_AO "MeshLines$FlitBuffer" U ∧ va_AO "MeshLines$Flit" U
theorem ev_Xmoved {u U : State} (hW : u.WarmedH U.vm) (h : ev_X u) : ev_X U := by
  obtain ⟨k0, k1, k2, k3, k4, k5, k6, k7, k8⟩ := h
  exact ⟨va_Nw.warmM hW k0, va_Nw.warmM hW k1, va_Nw.warmC hW k2, va_AO.moved hW.alike k3, va_AO.moved hW.alike k4, va_AO.moved hW.alike k5, va_AO.moved hW.alike k6, va_AO.moved hW.alike k7, va_AO.moved hW.alike k8⟩
theorem xn_Ho_21 (U : State) (h : ev_X U) : va_Nw (.methodLinkNest "MeshLines$Home" 21 ⟨"MeshLines", "homeOf", "(I)I"⟩ "MeshLines") U := h.1
theorem xn_Ca_63 (U : State) (h : ev_X U) : va_Nw (.methodLinkNest "MeshLines$Cache" 63 ⟨"MeshLines", "homeOf", "(I)I"⟩ "MeshLines") U := h.2.1
theorem xc_52 (U : State) (h : ev_X U) : va_Nw (.castable "MeshLines$Packet" "java/lang/Object") U := h.2.2.1
theorem xo_52 (U : State) (h : ev_X U) : va_AO "java/lang/Object" U := h.2.2.2.1
theorem xo_53 (U : State) (h : ev_X U) : va_AO "MeshLines$Home" U := h.2.2.2.2.1
theorem xo_54 (U : State) (h : ev_X U) : va_AO "MeshLines$Node" U := h.2.2.2.2.2.1
theorem xo_55 (U : State) (h : ev_X U) : va_AO "MeshLines$Lane" U := h.2.2.2.2.2.2.1
theorem xo_56 (U : State) (h : ev_X U) : va_AO "MeshLines$FlitBuffer" U := h.2.2.2.2.2.2.2.1
theorem xo_57 (U : State) (h : ev_X U) : va_AO "MeshLines$Flit" U := h.2.2.2.2.2.2.2.2
end
section
/-! The abstract machine, its heap: a number for each kind of cell, fields and elements as functions of the address.
   Ints are integers z that stand for Int32.ofInt z; a reference is an Option Nat. -/
abbrev eI (z : Int) : Value := Value.int (Int32.ofInt z)
def eOk (z : Int) : Bool := decide (-2147483648 ≤ z) && decide (z < 2147483648)
theorem eOk_iff {z : Int} : eOk z = true ↔ -2147483648 ≤ z ∧ z < 2147483648 := by simp [eOk]
theorem eI_toInt {z : Int} (h : eOk z = true) : (Int32.ofInt z).toInt = z := by
  rw [eOk_iff] at h
  rw [Int32.toInt_ofInt]
  exact Int.bmod_eq_of_le (by simp [Int32.size]; omega) (by simp [Int32.size]; omega)
theorem eI_inj {a b : Int} (ha : eOk a = true) (hb : eOk b = true) (h : Int32.ofInt a = Int32.ofInt b) : a = b := by
  have := congrArg Int32.toInt h
  rwa [eI_toInt ha, eI_toInt hb] at this
theorem eI_lt {a b : Int} (ha : eOk a = true) (hb : eOk b = true) : Int32.ofInt a < Int32.ofInt b ↔ a < b := by
  rw [Int32.lt_iff_toInt_lt, eI_toInt ha, eI_toInt hb]
theorem eI_le {a b : Int} (ha : eOk a = true) (hb : eOk b = true) : Int32.ofInt a ≤ Int32.ofInt b ↔ a ≤ b := by
  rw [Int32.le_iff_toInt_le, eI_toInt ha, eI_toInt hb]
theorem eI_add (a b : Int) : Int32.ofInt a + Int32.ofInt b = Int32.ofInt (a + b) := by rw [Int32.ofInt_add]
theorem eI_sub (a b : Int) : Int32.ofInt a - Int32.ofInt b = Int32.ofInt (a - b) := by rw [Int32.ofInt_sub]
theorem eI_mul (a b : Int) : Int32.ofInt a * Int32.ofInt b = Int32.ofInt (a * b) := by rw [Int32.ofInt_mul]
theorem eI_neg (a : Int) : - Int32.ofInt a = Int32.ofInt (-a) := by rw [Int32.ofInt_neg]
theorem eI_nat (n : Nat) : Int32.ofInt (n : Int) = nI n := by
  show Int32.ofInt (n : Int) = Int32.ofNat n
  first | rfl | exact Int32.ofInt_eq_ofNat | (apply Int32.toBitVec_inj.mp; simp)
theorem eI_div {a b : Int} (h0 : 0 ≤ a) (ha : a < 2147483648) (h1 : 0 < b) (hb : b < 2147483648) : Int32.ofInt a / Int32.ofInt b = Int32.ofInt (a / b) := by
  obtain ⟨n, rfl⟩ := Int.eq_ofNat_of_zero_le h0
  obtain ⟨k, rfl⟩ := Int.eq_ofNat_of_zero_le (Int.le_of_lt h1)
  rw [eI_nat, eI_nat, pk_div (by omega) (by omega) (by omega), ← eI_nat]
  simp
theorem eI_rem {a b : Int} (h0 : 0 ≤ a) (ha : a < 2147483648) (h1 : 0 < b) (hb : b < 2147483648) : Int32.ofInt a - Int32.ofInt a / Int32.ofInt b * Int32.ofInt b = Int32.ofInt (a % b) := by
  obtain ⟨n, rfl⟩ := Int.eq_ofNat_of_zero_le h0
  obtain ⟨k, rfl⟩ := Int.eq_ofNat_of_zero_le (Int.le_of_lt h1)
  rw [eI_nat, eI_nat, pk_rem (by omega) (by omega) (by omega), ← eI_nat]
  simp
theorem eI_cl {z : Int} (h0 : 0 ≤ z) (h : z < 2147483648) : (Int32.ofInt z).toNatClampNeg = z.toNat := by
  obtain ⟨n, rfl⟩ := Int.eq_ofNat_of_zero_le h0
  rw [eI_nat, nI_clamp (by omega)]
  simp
theorem eI_nneg {z : Int} (h0 : 0 ≤ z) (h : z < 2147483648) : ¬ Int32.ofInt z < 0 := by
  obtain ⟨n, rfl⟩ := Int.eq_ofNat_of_zero_le h0
  rw [eI_nat]
  exact nI_pos (by omega)
theorem eI_in {z : Int} {n : Nat} (h0 : 0 ≤ z) (h : z < n) (hn : n < 2147483648) : vp_in (Int32.ofInt z) n := by
  obtain ⟨k, rfl⟩ := Int.eq_ofNat_of_zero_le h0
  rw [eI_nat]
  exact vp_in_nI (by omega) (by omega)
def eAnd (a b : Int) : Int := (Int32.ofInt a &&& Int32.ofInt b).toInt
def eOr (a b : Int) : Int := (Int32.ofInt a ||| Int32.ofInt b).toInt
def eXor (a b : Int) : Int := (Int32.ofInt a ^^^ Int32.ofInt b).toInt
def eShl (a b : Int) : Int := (Int32.ofInt a <<< (Int32.ofInt b &&& 31)).toInt
def eShr (a b : Int) : Int := (Int32.ofInt a >>> (Int32.ofInt b &&& 31)).toInt
def eUshr (a b : Int) : Int := ((Int32.ofInt a).toUInt32 >>> ((Int32.ofInt b).toUInt32 &&& Int32.toUInt32 31)).toInt32.toInt
theorem eI_toI (x : Int32) : Int32.ofInt x.toInt = x := by simp
-- the heap: kinds, int fields, reference fields, lengths, ints of arrays, references of arrays, size, cells made, slots made, the empty row, the mirror
abbrev ev_hs : Type := (Nat → Nat) × (Nat → Nat → Int) × (Nat → Nat → Option Nat) × (Nat → Nat) × (Nat → Nat → Int) × (Nat → Nat → Option Nat) × Nat × Nat × Nat × Nat × Nat
def xK (h : ev_hs) : Nat → Nat := h.1
def xI (h : ev_hs) : Nat → Nat → Int := h.2.1
def xR (h : ev_hs) : Nat → Nat → Option Nat := h.2.2.1
def xL (h : ev_hs) : Nat → Nat := h.2.2.2.1
def xA (h : ev_hs) : Nat → Nat → Int := h.2.2.2.2.1
def xQ (h : ev_hs) : Nat → Nat → Option Nat := h.2.2.2.2.2.1
def xZ (h : ev_hs) : Nat := h.2.2.2.2.2.2.1
def xC (h : ev_hs) : Nat := h.2.2.2.2.2.2.2.1
def xS (h : ev_hs) : Nat := h.2.2.2.2.2.2.2.2.1
def xE (h : ev_hs) : Nat := h.2.2.2.2.2.2.2.2.2.1
def xM (h : ev_hs) : Nat := h.2.2.2.2.2.2.2.2.2.2
def up2 {α : Type} (f : Nat → Nat → α) (i j : Nat) (v : α) : Nat → Nat → α := fun a b => if a = i ∧ b = j then v else f a b
-- writes
def wI (h : ev_hs) (f a : Nat) (z : Int) : ev_hs := (xK h, up2 (xI h) f a z, xR h, xL h, xA h, xQ h, xZ h, xC h, xS h, xE h, xM h)
def wR (h : ev_hs) (f a : Nat) (o : Option Nat) : ev_hs := (xK h, xI h, up2 (xR h) f a o, xL h, xA h, xQ h, xZ h, xC h, xS h, xE h, xM h)
def wA (h : ev_hs) (a j : Nat) (z : Int) : ev_hs := (xK h, xI h, xR h, xL h, up2 (xA h) a j z, xQ h, xZ h, xC h, xS h, xE h, xM h)
def wQ (h : ev_hs) (a j : Nat) (o : Option Nat) : ev_hs := (xK h, xI h, xR h, xL h, xA h, up2 (xQ h) a j o, xZ h, xC h, xS h, xE h, xM h)
def wC (h : ev_hs) (a s d p n : Nat) : ev_hs := (xK h, xI h, xR h, xL h, xA h, (fun b j => if b = d ∧ p ≤ j ∧ j < p + n then xQ h a (s + (j - p)) else xQ h b j), xZ h, xC h, xS h, xE h, xM h)
def wN (h : ev_hs) (c n : Nat) : ev_hs := (va_up (xK h) (xZ h) (c + 1), (fun f a => if a = xZ h then 0 else xI h f a), (fun f a => if a = xZ h then none else xR h f a), va_up (xL h) (xZ h) 0, xA h, xQ h, xZ h + 1, xC h + 1, xS h + n, xE h, xM h)
def wY (h : ev_hs) (t n : Nat) : ev_hs := (va_up (xK h) (xZ h) t, xI h, xR h, va_up (xL h) (xZ h) n, va_up (xA h) (xZ h) (fun _ => 0), va_up (xQ h) (xZ h) (fun _ => none), xZ h + 1, xC h + 1, xS h + n, xE h, xM h)
section Ops
variable {α : Type}
-- reading and writing, with what comes behind: none where the abstract machine doesn't go
def gI (h : ev_hs) (c k : Nat) (o : Option Nat) (K : Int → Option α) : Option α := match o with
  | none => none
  | some a => if xK h a = c + 1 then K (xI h (100 * c + k) a) else none
def gR (h : ev_hs) (c k : Nat) (o : Option Nat) (K : Option Nat → Option α) : Option α := match o with
  | none => none
  | some a => if xK h a = c + 1 then K (xR h (100 * c + k) a) else none
def pI (h : ev_hs) (c k : Nat) (o : Option Nat) (z : Int) (K : ev_hs → Option α) : Option α := match o with
  | none => none
  | some a => if xK h a = c + 1 then K (wI h (100 * c + k) a z) else none
def pZ (h : ev_hs) (c k : Nat) (o : Option Nat) (z : Int) (K : ev_hs → Option α) : Option α := match o with
  | none => none
  | some a => if xK h a = c + 1 ∧ (z = 0 ∨ z = 1) then K (wI h (100 * c + k) a z) else none
def pR (h : ev_hs) (c k : Nat) (o : Option Nat) (v : Option Nat) (K : ev_hs → Option α) : Option α := match o with
  | none => none
  | some a => if xK h a = c + 1 then K (wR h (100 * c + k) a v) else none
def lI (h : ev_hs) (t : Nat) (o : Option Nat) (i : Int) (K : Int → Option α) : Option α := match o with
  | none => none
  | some a => if xK h a = t ∧ 0 ≤ i ∧ i < (xL h a : Int) then K (xA h a i.toNat) else none
def lQ (h : ev_hs) (t : Nat) (o : Option Nat) (i : Int) (K : Option Nat → Option α) : Option α := match o with
  | none => none
  | some a => if xK h a = t ∧ 0 ≤ i ∧ i < (xL h a : Int) then K (xQ h a i.toNat) else none
def sI (h : ev_hs) (t : Nat) (o : Option Nat) (i : Int) (z : Int) (K : ev_hs → Option α) : Option α := match o with
  | none => none
  | some a => if xK h a = t ∧ 0 ≤ i ∧ i < (xL h a : Int) then K (wA h a i.toNat z) else none
def sZ (h : ev_hs) (t : Nat) (o : Option Nat) (i : Int) (z : Int) (K : ev_hs → Option α) : Option α := match o with
  | none => none
  | some a => if xK h a = t ∧ 0 ≤ i ∧ i < (xL h a : Int) ∧ (z = 0 ∨ z = 1) then K (wA h a i.toNat z) else none
def okQ (h : ev_hs) (e : Nat) (v : Option Nat) : Bool := match v with
  | none => true
  | some w => xK h w == e + 1
-- of an array of kind t, whose elements may be objects of class e
def sQ (h : ev_hs) (t e : Nat) (o : Option Nat) (i : Int) (v : Option Nat) (K : ev_hs → Option α) : Option α := match o with
  | none => none
  | some a => if xK h a = t ∧ 0 ≤ i ∧ i < (xL h a : Int) ∧ okQ h e v = true then K (wQ h a i.toNat v) else none
def aL (h : ev_hs) (t : Nat) (o : Option Nat) (K : Int → Option α) : Option α := match o with
  | none => none
  | some a => if xK h a = t then K (xL h a : Int) else none
def nO (h : ev_hs) (c n : Nat) (K : Option Nat → ev_hs → Option α) : Option α := K (some (xZ h)) (wN h c n)
def nA (h : ev_hs) (t : Nat) (n : Int) (K : Option Nat → ev_hs → Option α) : Option α := if 0 ≤ n ∧ n ≤ 100000000 then K (some (xZ h)) (wY h t n.toNat) else none
def bI (o : Option (Int × ev_hs)) (K : Int → ev_hs → Option α) : Option α := match o with
  | none => none
  | some y => K y.1 y.2
def bR (o : Option (Option Nat × ev_hs)) (K : Option Nat → ev_hs → Option α) : Option α := match o with
  | none => none
  | some y => K y.1 y.2
def bV (o : Option ev_hs) (K : ev_hs → Option α) : Option α := match o with
  | none => none
  | some y => K y
-- the receiver is an object of class c; it isn't null
def vK (h : ev_hs) (c : Nat) (o : Option Nat) (A : Option α) : Option α := match o with
  | none => none
  | some a => if xK h a = c + 1 then A else none
def nN (o : Option Nat) (A : Option α) : Option α := match o with
  | none => none
  | some _ => A
def eLt (a b : Int) (A B : Option α) : Option α := if eOk a = true ∧ eOk b = true then (if a < b then A else B) else none
def eEq (a b : Int) (A B : Option α) : Option α := if a = b then A else if eOk a = true ∧ eOk b = true then B else none
def eNu (o : Option Nat) (A B : Option α) : Option α := match o with
  | none => A
  | some _ => B
def eAe (o v : Option Nat) (A B : Option α) : Option α := if o = v then A else B
def eDiv (a b : Int) (K : Int → Option α) : Option α := if 0 ≤ a ∧ a < 2147483648 ∧ 0 < b ∧ b < 2147483648 then K (a / b) else none
def eRem (a b : Int) (K : Int → Option α) : Option α := if 0 ≤ a ∧ a < 2147483648 ∧ 0 < b ∧ b < 2147483648 then K (a % b) else none
-- checkcast to class c, to the kind t of arrays
def eCc (h : ev_hs) (c : Nat) (o : Option Nat) (K : Option α) : Option α := match o with
  | none => K
  | some a => if xK h a = c + 1 then K else none
def eCa (h : ev_hs) (t : Nat) (o : Option Nat) (K : Option α) : Option α := match o with
  | none => K
  | some a => if xK h a = t ∧ 0 < xL h a then K else none
-- getClass of a row of objects
def eGc (h : ev_hs) (t : Nat) (o : Option Nat) (K : Option Nat → Option α) : Option α := match o with
  | none => none
  | some a => if xK h a = t ∧ 0 < xL h a then K (some (xM h)) else none
def okR (h : ev_hs) (e a s n : Nat) : Bool := (List.range n).all (fun i => okQ h e (xQ h a (s + i)))
-- System.arraycopy between rows of objects (kind t, objects of class e)
def cQ (h : ev_hs) (t e : Nat) (o : Option Nat) (sp : Int) (v : Option Nat) (dp n : Int) (K : ev_hs → Option α) : Option α := match o, v with
  | some a, some d => if xK h a = t ∧ xK h d = t ∧ 0 ≤ sp ∧ 0 ≤ dp ∧ 0 ≤ n ∧ sp + n ≤ (xL h a : Int) ∧ dp + n ≤ (xL h d : Int) ∧ okR h e a sp.toNat n.toNat = true ∧ 0 < n then K (wC h a sp.toNat d dp.toNat n.toNat) else none
  | _, _ => none
end Ops
/-! The judgement: from pc, locals lo, stack st, heap h the method M comes to its end with x -/
abbrev ev_E : Type := Launch × va_G × (Nat → ClassId) × Nat × Cell × Heap × Nat × Nat × Cell
abbrev eLa (E : ev_E) : Launch := E.1
abbrev eD (E : ev_E) : va_G := E.2.1
abbrev eA (E : ev_E) : Nat → ClassId := E.2.2.1
abbrev e0 (E : ev_E) : Nat := E.2.2.2.1
abbrev eSc (E : ev_E) : Cell := E.2.2.2.2.1
abbrev eHb (E : ev_E) : Heap := E.2.2.2.2.2.1
abbrev eEm (E : ev_E) : Nat := E.2.2.2.2.2.2.1
abbrev eMi (E : ev_E) : Nat := E.2.2.2.2.2.2.2.1
abbrev eEc (E : ev_E) : Cell := E.2.2.2.2.2.2.2.2
abbrev ev_M : Type := MethodName × ByteArray × Nat × Option FieldType
abbrev mY (M : ev_M) : MethodName := M.1
abbrev mB (M : ev_M) : ByteArray := M.2.1
abbrev mL (M : ev_M) : Nat := M.2.2.1
abbrev mR (M : ev_M) : Option FieldType := M.2.2.2
def ev_fv (h : ev_hs) (c a k : Nat) : Value := if evB c k = true then va_rf (xR h (100 * c + k) a) else eI (xI h (100 * c + k) a)
def ev_fs (h : ev_hs) (c a : Nat) : List Value := (List.range (evN c)).map (ev_fv h c a)
def ev_at (E : ev_E) (h : ev_hs) (H : Heap) (a : Nat) : Prop :=
  (∀ c, xK h a = c + 1 → c < 49 → va_at (eD E) evC (a, .inr (c, ev_fs h c a)) H) ∧
  (50 ≤ xK h a → xK h a ≤ 51 → H[a]? = some (vp_cell (eA E (xK h a)) (xL h a, .inl (fun j => Int32.ofInt (xA h a j))))) ∧
  (52 ≤ xK h a → xK h a ≤ 57 → H[a]? = some (vp_cell (eA E (xK h a)) (xL h a, .inr (.inr (.inr (.inr (xQ h a)))))) ∨ (xK h a = 52 ∧ xL h a = 0 ∧ H[a]? = some (eEc E))) ∧
  (xK h a = 58 → H[a]? = some (eSc E) ∧ (eSc E).slots.size = xL h a ∧ ∀ j, j < xL h a → (eSc E).slots[j]? = some (eI (xA h a j)))
def ev_H (E : ev_E) (h : ev_hs) (H : Heap) : Prop :=
  H.size = xZ h ∧ e0 E ≤ xZ h ∧ xE h = eEm E ∧ xM h = eMi E ∧ (eHb E).size = e0 E ∧ (∀ q, q < e0 E → H[q]? = (eHb E)[q]?) ∧
  ∀ a, xK h a ≠ 0 → a < xZ h ∧ xL h a < 2147483648 ∧ (e0 E ≤ a ∨ xK h a = 58 ∨ (xK h a = 52 ∧ xL h a = 0)) ∧ ev_at E h H a
def ev_K (E : ev_E) (U : State) : Prop :=
  va_K (eD E) evC [] U ∧ (∀ t, 50 ≤ t → t ≤ 57 → ArrOfT U (eA E t) (evTy t) ∧ va_RA U (eA E t) (evTy t)) ∧ U.isArrayOf (eSc E) .int ∧ (eSc E).vm ≠ .unknown ∧
  ev_X U ∧ (U.isArrayOf (eEc E) (.object "java/lang/Object") ∧ (eEc E).slots.size = 0) ∧ va_Mi "[Ljava/lang/Object;" (eMi E) U ∧ va_Dc U ∧
  va_Z "java/util/ArrayList" "DEFAULTCAPACITY_EMPTY_ELEMENTDATA" "[Ljava/lang/Object;" (.ref (eEm E)) (fun q => e0 E ≤ q) U (eHb E)
def ev_Ro (d mc ms : Nat) (R : Room) : Prop := d ≤ R.frames ∧ 40 * d ≤ R.locals ∧ mc ≤ R.cells ∧ ms ≤ R.slots
def ev_S (E : ev_E) (M : ev_M) (d mc ms : Nat) (p : Program) (R : Room) (s : State) (m : MethodId) (args : Array Value) (meth : Method) (c : Code) : Prop :=
  p.tables.exec = Jvm.exec ∧ c.code = mB M ∧ c.maxLocals = mL M ∧ s.vm.findClass (mY M).cls = some m.cls ∧ meth.name = (mY M).name ∧ (∀ w ∈ evW, w.before args s = true) ∧ ev_K E s ∧ ev_Ro d mc ms R
-- a return at pc with the stack st gives o
def ev_V (M : ev_M) (pc : Nat) (o : Option Value) (st : List Value) : Prop :=
  (decode (mB M) pc = .ok (.ireturn, 1) ∧ ∃ (v : Int32) (ty : FieldType), o = some (.int v) ∧ st = [.int v] ∧ mR M = some ty ∧ narrow ty (.int v) = .int v) ∨
  (decode (mB M) pc = .ok (.areturn, 1) ∧ ∃ (r : Option Nat) (rt : FieldType), o = some (va_rf r) ∧ st = [va_rf r] ∧ mR M = some rt ∧ ((∃ n, rt = .object n) ∨ ∃ t, rt = .array t)) ∨
  (decode (mB M) pc = .ok (.return_, 1) ∧ o = none ∧ st = [] ∧ mR M = none)
def ev_T (E : ev_E) (M : ev_M) (x : Option Value × ev_hs) (mc ms : Nat) (p : Program) (e : Env) (R : Room) (s : State) (m : MethodId) (args : Array Value) (below : List Frame) (meth : Method) (c : Code) (Z : State → Prop) : Prop :=
  ∀ (H : Heap) (locs : List Loc) (pc : Nat) (ls : Array Slot) (st : List Value), ev_H E x.2 H → (∀ q ∈ locs, e0 E ≤ q.base) → ev_V M pc x.1 st → W p (eLa E) e R s m args below meth c H locs mc ms Z (F0 m pc ls st)
def ev_L (ls : Array Slot) (nL : Nat) (lo : List (Option Value)) : Prop :=
  ls.size = nL ∧ lv_wf ls ∧ ∀ (i : Nat) (v : Value), lo[i]? = some (some v) → ls[i]? = some (.val v) ∧ v.category = 1
def Ev (E : ev_E) (M : ev_M) (d pc : Nat) (lo : List (Option Value)) (st : List Value) (h : ev_hs) (x : Option Value × ev_hs) : Prop :=
  xC h ≤ xC x.2 ∧ xS h ≤ xS x.2 ∧
  ∀ (p : Program) (e : Env) (R : Room) (s : State) (m : MethodId) (args : Array Value) (below : List Frame) (meth : Method) (c : Code) (Z : State → Prop) (mc ms : Nat),
    ev_S E M d mc ms p R s m args meth c → ev_T E M x mc ms p e R s m args below meth c Z →
    ∀ (H : Heap) (locs : List Loc) (cells slots : Nat) (ls : Array Slot), ev_H E h H → (∀ q ∈ locs, e0 E ≤ q.base) → ev_L ls (mL M) lo → cells + (xC x.2 - xC h) ≤ mc → slots + (xS x.2 - xS h) ≤ ms →
      W p (eLa E) e R s m args below meth c H locs cells slots Z (F0 m pc ls st)
def EvO {α : Type} (E : ev_E) (M : ev_M) (d : Nat) (cv : α → Option Value × ev_hs) (pc : Nat) (lo : List (Option Value)) (st : List Value) (h : ev_hs) (o : Option α) : Prop :=
  ∀ x, o = some x → Ev E M d pc lo st h (cv x)
def cvI (y : Int × ev_hs) : Option Value × ev_hs := (some (eI y.1), y.2)
def cvR (y : Option Nat × ev_hs) : Option Value × ev_hs := (some (va_rf y.1), y.2)
def cvV (y : ev_hs) : Option Value × ev_hs := (none, y)
theorem va_rf_cat (o : Option Nat) : (va_rf o).category = 1 := by cases o <;> rfl
theorem eI_cat (z : Int) : (eI z).category = 1 := rfl
def ev_sm (st : List Value) (j : Nat) : Prop := (st.map fun v => v.category).sum ≤ j
theorem ev_sm0 : ev_sm [] 0 := Nat.le_refl _
theorem ev_smc {v : Value} {st : List Value} {j : Nat} (hv : v.category = 1) (hs : ev_sm st j) : ev_sm (v :: st) (j + 1) := by
  unfold ev_sm at *
  simp only [List.map_cons, List.sum_cons, hv]
  omega
def ev_sub : List (Option Value) → List (Option Value) → Prop
  | [], _ => True
  | none :: r, _ :: s => ev_sub r s
  | some v :: r, a :: s => a = some v ∧ ev_sub r s
  | _ :: _, [] => False
theorem ev_sub0 {l : List (Option Value)} : ev_sub [] l := trivial
theorem ev_subN {r s : List (Option Value)} {a : Option Value} (h : ev_sub r s) : ev_sub (none :: r) (a :: s) := h
theorem ev_subS {r s : List (Option Value)} {v : Value} (h : ev_sub r s) : ev_sub (some v :: r) (some v :: s) := ⟨rfl, h⟩
theorem ev_sub_get {lo' lo : List (Option Value)} (hs : ev_sub lo' lo) {i : Nat} {v : Value} (hi : lo'[i]? = some (some v)) : lo[i]? = some (some v) := by
  induction lo' generalizing lo i with
  | nil => simp at hi
  | cons b r ih =>
    cases lo with
    | nil => cases b <;> exact hs.elim
    | cons a s =>
      cases b with
      | none =>
        cases i with
        | zero => simp at hi
        | succ i => exact ih (lo := s) hs hi
      | some w =>
        cases i with
        | zero =>
          simp at hi
          subst hi
          simp [hs.1]
        | succ i => exact ih (lo := s) hs.2 hi
def jn {α γ : Type} (F : γ) (R : γ → Option α) : Option α := R F
def FU : Nat := 100000
section Rules
variable {α : Type} {E : ev_E} {M : ev_M} {d : Nat} {cv : α → Option Value × ev_hs} {pc : Nat} {lo : List (Option Value)} {st : List Value} {h : ev_hs} {o : Option α}
theorem ev_jn {γ : Type} {F : γ} {R : γ → Option α} (P : γ → Prop) (hF : P F) (hR : ∀ J, P J → EvO E M d cv pc lo st h (R J)) : EvO E M d cv pc lo st h (jn F R) := hR F hF
theorem ev_wk {lo' : List (Option Value)} (k : EvO E M d cv pc lo' st h o) (hs : ev_sub lo' lo) : EvO E M d cv pc lo st h o := by
  intro x hx
  obtain ⟨h1, h2, h3⟩ := k x hx
  exact ⟨h1, h2, fun p e R s m args below meth c Z mc ms hS hT H locs cells slots ls hH hl hL hc hs' => h3 p e R s m args below meth c Z mc ms hS hT H locs cells slots ls hH hl ⟨hL.1, hL.2.1, fun i v hi => hL.2.2 i v (ev_sub_get hs hi)⟩ hc hs'⟩
theorem ev_no : EvO E M d cv pc lo st h none := fun x hx => by cases hx
-- an instruction that changes neither heap nor locals
theorem ev_lift {pc' : Nat} {st' : List Value}
    (step : ∀ {p : Program} {e : Env} {R : Room} {s : State} {m : MethodId} {args : Array Value} {below : List Frame} {meth : Method} {c : Code} {H : Heap} {locs : List Loc} {cells slots : Nat} {Z : State → Prop} {ls : Array Slot} {mc ms : Nat},
      ev_S E M d mc ms p R s m args meth c → ev_L ls (mL M) lo → W p (eLa E) e R s m args below meth c H locs cells slots Z (F0 m pc' ls st') → W p (eLa E) e R s m args below meth c H locs cells slots Z (F0 m pc ls st))
    (k : EvO E M d cv pc' lo st' h o) : EvO E M d cv pc lo st h o := by
  intro x hx
  obtain ⟨h1, h2, h3⟩ := k x hx
  exact ⟨h1, h2, fun p e R s m args below meth c Z mc ms hS hT H locs cells slots ls hH hl hL hc hs => step hS hL (h3 p e R s m args below meth c Z mc ms hS hT H locs cells slots ls hH hl hL hc hs)⟩
-- the same, with the heap at hand
theorem ev_liftH {pc' : Nat} {st' : List Value}
    (step : ∀ {p : Program} {e : Env} {R : Room} {s : State} {m : MethodId} {args : Array Value} {below : List Frame} {meth : Method} {c : Code} {H : Heap} {locs : List Loc} {cells slots : Nat} {Z : State → Prop} {ls : Array Slot} {mc ms : Nat},
      ev_S E M d mc ms p R s m args meth c → ev_L ls (mL M) lo → ev_H E h H → (∀ q ∈ locs, e0 E ≤ q.base) → W p (eLa E) e R s m args below meth c H locs cells slots Z (F0 m pc' ls st') → W p (eLa E) e R s m args below meth c H locs cells slots Z (F0 m pc ls st))
    (k : EvO E M d cv pc' lo st' h o) : EvO E M d cv pc lo st h o := by
  intro x hx
  obtain ⟨h1, h2, h3⟩ := k x hx
  exact ⟨h1, h2, fun p e R s m args below meth c Z mc ms hS hT H locs cells slots ls hH hl hL hc hs => step hS hL hH hl (h3 p e R s m args below meth c Z mc ms hS hT H locs cells slots ls hH hl hL hc hs)⟩
-- the locals change
theorem ev_liftL {pc' : Nat} {lo' : List (Option Value)} {st' : List Value}
    (step : ∀ {p : Program} {e : Env} {R : Room} {s : State} {m : MethodId} {args : Array Value} {below : List Frame} {meth : Method} {c : Code} {H : Heap} {locs : List Loc} {cells slots : Nat} {Z : State → Prop} {ls : Array Slot} {mc ms : Nat},
      ev_S E M d mc ms p R s m args meth c → ev_L ls (mL M) lo → (∀ ls', ev_L ls' (mL M) lo' → W p (eLa E) e R s m args below meth c H locs cells slots Z (F0 m pc' ls' st')) → W p (eLa E) e R s m args below meth c H locs cells slots Z (F0 m pc ls st))
    (k : EvO E M d cv pc' lo' st' h o) : EvO E M d cv pc lo st h o := by
  intro x hx
  obtain ⟨h1, h2, h3⟩ := k x hx
  exact ⟨h1, h2, fun p e R s m args below meth c Z mc ms hS hT H locs cells slots ls hH hl hL hc hs => step hS hL (fun ls' hL' => h3 p e R s m args below meth c Z mc ms hS hT H locs cells slots ls' hH hl hL' hc hs)⟩
-- the heap changes: cells of ours alone; c1, s1 cells and slots are new
theorem ev_liftW {pc' : Nat} {st' : List Value} {h' : ev_hs} {c1 s1 : Nat} (hc1 : xC h' = xC h + c1) (hs1 : xS h' = xS h + s1)
    (step : ∀ {p : Program} {e : Env} {R : Room} {s : State} {m : MethodId} {args : Array Value} {below : List Frame} {meth : Method} {c : Code} {H : Heap} {locs : List Loc} {cells slots : Nat} {Z : State → Prop} {ls : Array Slot} {mc ms : Nat},
      ev_S E M d mc ms p R s m args meth c → ev_L ls (mL M) lo → ev_H E h H → (∀ q ∈ locs, e0 E ≤ q.base) → cells + c1 ≤ mc → slots + s1 ≤ ms →
      (∀ (H' : Heap) (locs' : List Loc), ev_H E h' H' → (∀ q ∈ locs', e0 E ≤ q.base) → W p (eLa E) e R s m args below meth c H' locs' (cells + c1) (slots + s1) Z (F0 m pc' ls st')) → W p (eLa E) e R s m args below meth c H locs cells slots Z (F0 m pc ls st))
    (k : EvO E M d cv pc' lo st' h' o) : EvO E M d cv pc lo st h o := by
  intro x hx
  obtain ⟨h1, h2, h3⟩ := k x hx
  refine ⟨by omega, by omega, fun p e R s m args below meth c Z mc ms hS hT H locs cells slots ls hH hl hL hc hs => step hS hL hH hl (by omega) (by omega) (fun H' locs' hH' hl' => h3 p e R s m args below meth c Z mc ms hS hT H' locs' (cells + c1) (slots + s1) ls hH' hl' hL (by omega) (by omega))⟩
end Rules
end
section
section Rules2
variable {α : Type} {E : ev_E} {M : ev_M} {d : Nat} {cv : α → Option Value × ev_hs} {pc : Nat} {lo : List (Option Value)} {st : List Value} {h : ev_hs} {o : Option α}
def ev_al (lo : List (Option Value)) : List (Nat × Value) := lo.zipIdx.filterMap (fun q => q.1.map (fun v => (q.2, v)))
theorem ev_al_mem {lo : List (Option Value)} {j : Nat} {w : Value} : (j, w) ∈ ev_al lo ↔ lo[j]? = some (some w) := by
  unfold ev_al
  rw [List.mem_filterMap]
  constructor
  · rintro ⟨⟨x, i⟩, hm, he⟩
    rw [List.mem_zipIdx_iff_getElem?] at hm
    cases x with
    | none => simp at he
    | some v =>
      simp at he
      obtain ⟨rfl, rfl⟩ := he
      exact hm
  · intro hj
    exact ⟨(some w, j), List.mem_zipIdx_iff_getElem?.mpr hj, rfl⟩
theorem ev_L.has {ls : Array Slot} {nL : Nat} (hh : ev_L ls nL lo) : lv_has ls nL (ev_al lo) := ⟨hh.1, hh.2.1, fun q hq => (hh.2.2 q.1 q.2 (ev_al_mem.mp hq)).1⟩
theorem ev_L.of {ls ls' : Array Slot} {nL i : Nat} {v : Value} (hh : ev_L ls nL lo) (h' : lv_has ls' nL ((i, v) :: (ev_al lo).filter (fun q => !(q.1 == i) && !(q.1 + 1 == i && q.2.category == 2)))) (hc : v.category = 1) : ev_L ls' nL (lo.set i (some v)) := by
  refine ⟨h'.1, h'.2.1, fun j w hj => ?_⟩
  by_cases hji : j = i
  · subst hji
    rw [List.getElem?_set] at hj
    simp at hj
    obtain ⟨_, rfl⟩ := hj
    exact ⟨h'.2.2 (j, v) List.mem_cons_self, hc⟩
  · rw [List.getElem?_set_ne (Ne.symm hji)] at hj
    have hw := hh.2.2 j w hj
    exact ⟨h'.2.2 (j, w) (List.mem_cons_of_mem _ (List.mem_filter.mpr ⟨ev_al_mem.mpr hj, by simp [hji, hw.2]⟩)), hw.2⟩
theorem ev_iconst (n : Nat) {z : Int} (hd : decode (mB M) pc = .ok (.iconst z, 1)) (hn : n = pc + 1) (k : EvO E M d cv n lo (eI z :: st) h o) : EvO E M d cv pc lo st h o := by
  subst hn
  exact ev_lift (fun hS _ w => lv_iconst hS.1 hS.2.1 hd rfl w) k
theorem ev_bipush (n : Nat) {z : Int} (hd : decode (mB M) pc = .ok (.bipush z, 2)) (hz : (Int8.ofInt z).toInt32 = Int32.ofInt z) (hn : n = pc + 2) (k : EvO E M d cv n lo (eI z :: st) h o) : EvO E M d cv pc lo st h o := by
  subst hn
  exact ev_lift (fun hS _ w => lv_bipush hS.1 hS.2.1 hd hz w) k
theorem ev_sipush (n : Nat) {z : Int} (hd : decode (mB M) pc = .ok (.sipush z, 3)) (hz : (Int16.ofInt z).toInt32 = Int32.ofInt z) (hn : n = pc + 3) (k : EvO E M d cv n lo (eI z :: st) h o) : EvO E M d cv pc lo st h o := by
  subst hn
  exact ev_lift (fun hS _ w => lv_sipush hS.1 hS.2.1 hd hz w) k
theorem ev_ldc (n : Nat) {z : Int} {ix : Nat} (hd : decode (mB M) pc = .ok (.ldc ix, 2)) (hw : Cond.constant (mY M).cls ix (Int32.ofInt z) ∈ evW) (hn : n = pc + 2) (k : EvO E M d cv n lo (eI z :: st) h o) : EvO E M d cv pc lo st h o := by
  subst hn
  exact ev_lift (fun hS _ w => lv_ldc hS.1 hS.2.1 hS.2.2.2.1 (hS.2.2.2.2.2.1 _ hw) hd w) k
theorem ev_null (n : Nat) (hd : decode (mB M) pc = .ok (.aconst_null, 1)) (hn : n = pc + 1) (k : EvO E M d cv n lo (va_rf none :: st) h o) : EvO E M d cv pc lo st h o := by
  subst hn
  exact ev_lift (fun hS _ w => lv_null hS.1 hS.2.1 hd w) k
theorem ev_iadd (n : Nat) {a b : Int} (hd : decode (mB M) pc = .ok (.iadd, 1)) (hn : n = pc + 1) (k : EvO E M d cv n lo (eI (a + b) :: st) h o) : EvO E M d cv pc lo (eI b :: eI a :: st) h o := by
  subst hn
  exact ev_lift (fun hS _ w => lv_iadd hS.1 hS.2.1 hd (by rw [eI_add]; exact w)) k
theorem ev_isub (n : Nat) {a b : Int} (hd : decode (mB M) pc = .ok (.isub, 1)) (hn : n = pc + 1) (k : EvO E M d cv n lo (eI (a - b) :: st) h o) : EvO E M d cv pc lo (eI b :: eI a :: st) h o := by
  subst hn
  exact ev_lift (fun hS _ w => lv_isub hS.1 hS.2.1 hd (by rw [eI_sub]; exact w)) k
theorem ev_imul (n : Nat) {a b : Int} (hd : decode (mB M) pc = .ok (.imul, 1)) (hn : n = pc + 1) (k : EvO E M d cv n lo (eI (a * b) :: st) h o) : EvO E M d cv pc lo (eI b :: eI a :: st) h o := by
  subst hn
  exact ev_lift (fun hS _ w => lv_imul hS.1 hS.2.1 hd (by rw [eI_mul]; exact w)) k
theorem ev_ineg (n : Nat) {a : Int} (hd : decode (mB M) pc = .ok (.ineg, 1)) (hn : n = pc + 1) (k : EvO E M d cv n lo (eI (-a) :: st) h o) : EvO E M d cv pc lo (eI a :: st) h o := by
  subst hn
  exact ev_lift (fun hS _ w => lv_ineg hS.1 hS.2.1 hd (by rw [eI_neg]; exact w)) k
theorem ev_iand (n : Nat) {a b : Int} (hd : decode (mB M) pc = .ok (.iand, 1)) (hn : n = pc + 1) (k : EvO E M d cv n lo (eI (eAnd a b) :: st) h o) : EvO E M d cv pc lo (eI b :: eI a :: st) h o := by
  subst hn
  exact ev_lift (fun hS _ w => lv_iand hS.1 hS.2.1 hd (by simp only [eAnd, eI, eI_toI] at w; exact w)) k
theorem ev_ior (n : Nat) {a b : Int} (hd : decode (mB M) pc = .ok (.ior, 1)) (hn : n = pc + 1) (k : EvO E M d cv n lo (eI (eOr a b) :: st) h o) : EvO E M d cv pc lo (eI b :: eI a :: st) h o := by
  subst hn
  exact ev_lift (fun hS _ w => lv_ior hS.1 hS.2.1 hd (by simp only [eOr, eI, eI_toI] at w; exact w)) k
theorem ev_ixor (n : Nat) {a b : Int} (hd : decode (mB M) pc = .ok (.ixor, 1)) (hn : n = pc + 1) (k : EvO E M d cv n lo (eI (eXor a b) :: st) h o) : EvO E M d cv pc lo (eI b :: eI a :: st) h o := by
  subst hn
  exact ev_lift (fun hS _ w => lv_ixor hS.1 hS.2.1 hd (by simp only [eXor, eI, eI_toI] at w; exact w)) k
theorem ev_ishl (n : Nat) {a b : Int} (hd : decode (mB M) pc = .ok (.ishl, 1)) (hn : n = pc + 1) (k : EvO E M d cv n lo (eI (eShl a b) :: st) h o) : EvO E M d cv pc lo (eI b :: eI a :: st) h o := by
  subst hn
  exact ev_lift (fun hS _ w => lv_ishl hS.1 hS.2.1 hd (by simp only [eShl, eI, eI_toI] at w; exact w)) k
theorem ev_ishr (n : Nat) {a b : Int} (hd : decode (mB M) pc = .ok (.ishr, 1)) (hn : n = pc + 1) (k : EvO E M d cv n lo (eI (eShr a b) :: st) h o) : EvO E M d cv pc lo (eI b :: eI a :: st) h o := by
  subst hn
  exact ev_lift (fun hS _ w => lv_ishr hS.1 hS.2.1 hd (by simp only [eShr, eI, eI_toI] at w; exact w)) k
theorem ev_iushr (n : Nat) {a b : Int} (hd : decode (mB M) pc = .ok (.iushr, 1)) (hn : n = pc + 1) (k : EvO E M d cv n lo (eI (eUshr a b) :: st) h o) : EvO E M d cv pc lo (eI b :: eI a :: st) h o := by
  subst hn
  exact ev_lift (fun hS _ w => lv_iushr hS.1 hS.2.1 hd (eI_toI _).symm w) k
theorem ev_idiv (n : Nat) {a b : Int} {K : Int → Option α} (hd : decode (mB M) pc = .ok (.idiv, 1)) (hn : n = pc + 1) (k : ∀ z, EvO E M d cv n lo (eI z :: st) h (K z)) : EvO E M d cv pc lo (eI b :: eI a :: st) h (eDiv a b K) := by
  subst hn
  unfold eDiv
  split
  · rename_i hc
    obtain ⟨h0, h1, h2, h3⟩ := hc
    have hne : ¬ Int32.ofInt b = 0 := fun q => by
      have := eI_inj (a := b) (b := 0) (eOk_iff.mpr (by omega)) (by decide) q
      omega
    exact ev_lift (fun hS _ w => lv_idiv hS.1 hS.2.1 hd hne (by rw [eI_div h0 h1 h2 h3]; exact w)) (k _)
  · exact ev_no
theorem ev_irem (n : Nat) {a b : Int} {K : Int → Option α} (hd : decode (mB M) pc = .ok (.irem, 1)) (hn : n = pc + 1) (k : ∀ z, EvO E M d cv n lo (eI z :: st) h (K z)) : EvO E M d cv pc lo (eI b :: eI a :: st) h (eRem a b K) := by
  subst hn
  unfold eRem
  split
  · rename_i hc
    obtain ⟨h0, h1, h2, h3⟩ := hc
    have hne : ¬ Int32.ofInt b = 0 := fun q => by
      have := eI_inj (a := b) (b := 0) (eOk_iff.mpr (by omega)) (by decide) q
      omega
    exact ev_lift (fun hS _ w => lv_irem hS.1 hS.2.1 hd hne (by rw [eI_rem h0 h1 h2 h3]; exact w)) (k _)
  · exact ev_no
theorem ev_dup (n : Nat) {v : Value} (hd : decode (mB M) pc = .ok (.dup, 1)) (hv : v.category = 1) (hn : n = pc + 1) (k : EvO E M d cv n lo (v :: v :: st) h o) : EvO E M d cv pc lo (v :: st) h o := by
  subst hn
  exact ev_lift (fun hS _ w => lv_dup hS.1 hS.2.1 hd hv w) k
theorem ev_pop (n : Nat) {v : Value} (hd : decode (mB M) pc = .ok (.pop, 1)) (hv : v.category = 1) (hn : n = pc + 1) (k : EvO E M d cv n lo st h o) : EvO E M d cv pc lo (v :: st) h o := by
  subst hn
  exact ev_lift (fun hS _ w => lv_pop hS.1 hS.2.1 hd hv w) k
theorem ev_dup_x1 (n : Nat) {v u : Value} (hd : decode (mB M) pc = .ok (.dup_x1, 1)) (hv : v.category = 1) (hu : u.category = 1) (hn : n = pc + 1) (k : EvO E M d cv n lo (v :: u :: v :: st) h o) : EvO E M d cv pc lo (v :: u :: st) h o := by
  subst hn
  exact ev_lift (fun hS _ w => lv_dup_x1 hS.1 hS.2.1 hd hv hu w) k
theorem ev_dup_x2 (n : Nat) {v u t : Value} (hd : decode (mB M) pc = .ok (.dup_x2, 1)) (hv : v.category = 1) (hu : u.category = 1) (ht : t.category = 1) (hn : n = pc + 1) (k : EvO E M d cv n lo (v :: u :: t :: v :: st) h o) : EvO E M d cv pc lo (v :: u :: t :: st) h o := by
  subst hn
  exact ev_lift (fun hS _ w => lv_dup_x2 hS.1 hS.2.1 hd hv hu ht w) k
theorem ev_dup2 (n : Nat) {v u : Value} (hd : decode (mB M) pc = .ok (.dup2, 1)) (hv : v.category = 1) (hu : u.category = 1) (hn : n = pc + 1) (k : EvO E M d cv n lo (v :: u :: v :: u :: st) h o) : EvO E M d cv pc lo (v :: u :: st) h o := by
  subst hn
  exact ev_lift (fun hS _ w => lv_dup2_11 hS.1 hS.2.1 hd hv hu w) k
theorem ev_goto (t : Nat) {off : Int} (hd : decode (mB M) pc = .ok (.goto off, 3)) (ht : (pc : Int) + off = (t : Int)) (k : EvO E M d cv t lo st h o) : EvO E M d cv pc lo st h o :=
  ev_lift (fun hS _ w => lv_goto hS.1 hS.2.1 hd ht w) k
theorem ev_iload0 (n : Nat) {r : List (Option Value)} {z : Int} (hd : decode (mB M) pc = .ok (.iload_n (0 : Fin 4), 1)) (hn : n = pc + 1) (k : EvO E M d cv n (some (eI z) :: r) (eI z :: st) h o) : EvO E M d cv pc (some (eI z) :: r) st h o := by
  subst hn
  exact ev_lift (fun hS hL w => lv_iload_n hS.1 hS.2.1 hd rfl (hL.2.2 0 (eI z) rfl).1 w) k
theorem ev_aload0 (n : Nat) {r : List (Option Value)} {q : Option Nat} (hd : decode (mB M) pc = .ok (.aload_n (0 : Fin 4), 1)) (hn : n = pc + 1) (k : EvO E M d cv n (some (va_rf q) :: r) (va_rf q :: st) h o) : EvO E M d cv pc (some (va_rf q) :: r) st h o := by
  subst hn
  refine ev_lift (fun hS hL w => ?_) k
  have hl := (hL.2.2 0 (va_rf q) rfl).1
  cases q with
  | none => exact lv_aload_nN hS.1 hS.2.1 hd rfl hl w
  | some a => exact lv_aload_n hS.1 hS.2.1 hd rfl hl w
theorem ev_istore0 (n : Nat) {a0 : Option Value} {r : List (Option Value)} {z : Int} (hd : decode (mB M) pc = .ok (.istore_n (0 : Fin 4), 1)) (hi : 0 < mL M) (hn : n = pc + 1) (k : EvO E M d cv n (some (eI z) :: r) st h o) : EvO E M d cv pc (a0 :: r) (eI z :: st) h o := by
  subst hn
  exact ev_liftL (fun hS hL w => lv_istore_n hS.1 hS.2.1 hd rfl hL.has hi rfl (fun ls' h' => w ls' (hL.of h' rfl))) k
theorem ev_astore0 (n : Nat) {a0 : Option Value} {r : List (Option Value)} {q : Option Nat} (hd : decode (mB M) pc = .ok (.astore_n (0 : Fin 4), 1)) (hi : 0 < mL M) (hn : n = pc + 1) (k : EvO E M d cv n (some (va_rf q) :: r) st h o) : EvO E M d cv pc (a0 :: r) (va_rf q :: st) h o := by
  subst hn
  cases q with
  | none => exact ev_liftL (fun hS hL w => lv_astore_nN hS.1 hS.2.1 hd rfl hL.has hi rfl (fun ls' h' => w ls' (hL.of h' rfl))) k
  | some a => exact ev_liftL (fun hS hL w => lv_astore_n hS.1 hS.2.1 hd rfl hL.has hi rfl (fun ls' h' => w ls' (hL.of h' rfl))) k
theorem ev_iinc0 (n : Nat) {r : List (Option Value)} {z y : Int} (hd : decode (mB M) pc = .ok (.iinc 0 y, 3)) (hi : 0 < mL M) (hn : n = pc + 3) (k : EvO E M d cv n (some (eI (z + y)) :: r) st h o) : EvO E M d cv pc (some (eI z) :: r) st h o := by
  subst hn
  refine ev_liftL (fun hS hL w => ?_) k
  obtain ⟨k9, hk9⟩ := List.getElem?_of_mem (ev_al_mem.mpr (show (some (eI z) :: r)[0]? = some (some (eI z)) from rfl))
  exact lv_iinc hS.1 hS.2.1 hd hL.has hk9 (eI_add z y) hi rfl (fun ls' h' => w ls' (hL.of h' rfl))
theorem ev_iload1 (n : Nat) {a0 : Option Value} {r : List (Option Value)} {z : Int} (hd : decode (mB M) pc = .ok (.iload_n (1 : Fin 4), 1)) (hn : n = pc + 1) (k : EvO E M d cv n (a0 :: some (eI z) :: r) (eI z :: st) h o) : EvO E M d cv pc (a0 :: some (eI z) :: r) st h o := by
  subst hn
  exact ev_lift (fun hS hL w => lv_iload_n hS.1 hS.2.1 hd rfl (hL.2.2 1 (eI z) rfl).1 w) k
theorem ev_aload1 (n : Nat) {a0 : Option Value} {r : List (Option Value)} {q : Option Nat} (hd : decode (mB M) pc = .ok (.aload_n (1 : Fin 4), 1)) (hn : n = pc + 1) (k : EvO E M d cv n (a0 :: some (va_rf q) :: r) (va_rf q :: st) h o) : EvO E M d cv pc (a0 :: some (va_rf q) :: r) st h o := by
  subst hn
  refine ev_lift (fun hS hL w => ?_) k
  have hl := (hL.2.2 1 (va_rf q) rfl).1
  cases q with
  | none => exact lv_aload_nN hS.1 hS.2.1 hd rfl hl w
  | some a => exact lv_aload_n hS.1 hS.2.1 hd rfl hl w
theorem ev_istore1 (n : Nat) {a0 : Option Value} {a1 : Option Value} {r : List (Option Value)} {z : Int} (hd : decode (mB M) pc = .ok (.istore_n (1 : Fin 4), 1)) (hi : 1 < mL M) (hn : n = pc + 1) (k : EvO E M d cv n (a0 :: some (eI z) :: r) st h o) : EvO E M d cv pc (a0 :: a1 :: r) (eI z :: st) h o := by
  subst hn
  exact ev_liftL (fun hS hL w => lv_istore_n hS.1 hS.2.1 hd rfl hL.has hi rfl (fun ls' h' => w ls' (hL.of h' rfl))) k
theorem ev_astore1 (n : Nat) {a0 : Option Value} {a1 : Option Value} {r : List (Option Value)} {q : Option Nat} (hd : decode (mB M) pc = .ok (.astore_n (1 : Fin 4), 1)) (hi : 1 < mL M) (hn : n = pc + 1) (k : EvO E M d cv n (a0 :: some (va_rf q) :: r) st h o) : EvO E M d cv pc (a0 :: a1 :: r) (va_rf q :: st) h o := by
  subst hn
  cases q with
  | none => exact ev_liftL (fun hS hL w => lv_astore_nN hS.1 hS.2.1 hd rfl hL.has hi rfl (fun ls' h' => w ls' (hL.of h' rfl))) k
  | some a => exact ev_liftL (fun hS hL w => lv_astore_n hS.1 hS.2.1 hd rfl hL.has hi rfl (fun ls' h' => w ls' (hL.of h' rfl))) k
theorem ev_iinc1 (n : Nat) {a0 : Option Value} {r : List (Option Value)} {z y : Int} (hd : decode (mB M) pc = .ok (.iinc 1 y, 3)) (hi : 1 < mL M) (hn : n = pc + 3) (k : EvO E M d cv n (a0 :: some (eI (z + y)) :: r) st h o) : EvO E M d cv pc (a0 :: some (eI z) :: r) st h o := by
  subst hn
  refine ev_liftL (fun hS hL w => ?_) k
  obtain ⟨k9, hk9⟩ := List.getElem?_of_mem (ev_al_mem.mpr (show (a0 :: some (eI z) :: r)[1]? = some (some (eI z)) from rfl))
  exact lv_iinc hS.1 hS.2.1 hd hL.has hk9 (eI_add z y) hi rfl (fun ls' h' => w ls' (hL.of h' rfl))
theorem ev_iload2 (n : Nat) {a0 a1 : Option Value} {r : List (Option Value)} {z : Int} (hd : decode (mB M) pc = .ok (.iload_n (2 : Fin 4), 1)) (hn : n = pc + 1) (k : EvO E M d cv n (a0 :: a1 :: some (eI z) :: r) (eI z :: st) h o) : EvO E M d cv pc (a0 :: a1 :: some (eI z) :: r) st h o := by
  subst hn
  exact ev_lift (fun hS hL w => lv_iload_n hS.1 hS.2.1 hd rfl (hL.2.2 2 (eI z) rfl).1 w) k
theorem ev_aload2 (n : Nat) {a0 a1 : Option Value} {r : List (Option Value)} {q : Option Nat} (hd : decode (mB M) pc = .ok (.aload_n (2 : Fin 4), 1)) (hn : n = pc + 1) (k : EvO E M d cv n (a0 :: a1 :: some (va_rf q) :: r) (va_rf q :: st) h o) : EvO E M d cv pc (a0 :: a1 :: some (va_rf q) :: r) st h o := by
  subst hn
  refine ev_lift (fun hS hL w => ?_) k
  have hl := (hL.2.2 2 (va_rf q) rfl).1
  cases q with
  | none => exact lv_aload_nN hS.1 hS.2.1 hd rfl hl w
  | some a => exact lv_aload_n hS.1 hS.2.1 hd rfl hl w
theorem ev_istore2 (n : Nat) {a0 a1 : Option Value} {a2 : Option Value} {r : List (Option Value)} {z : Int} (hd : decode (mB M) pc = .ok (.istore_n (2 : Fin 4), 1)) (hi : 2 < mL M) (hn : n = pc + 1) (k : EvO E M d cv n (a0 :: a1 :: some (eI z) :: r) st h o) : EvO E M d cv pc (a0 :: a1 :: a2 :: r) (eI z :: st) h o := by
  subst hn
  exact ev_liftL (fun hS hL w => lv_istore_n hS.1 hS.2.1 hd rfl hL.has hi rfl (fun ls' h' => w ls' (hL.of h' rfl))) k
theorem ev_astore2 (n : Nat) {a0 a1 : Option Value} {a2 : Option Value} {r : List (Option Value)} {q : Option Nat} (hd : decode (mB M) pc = .ok (.astore_n (2 : Fin 4), 1)) (hi : 2 < mL M) (hn : n = pc + 1) (k : EvO E M d cv n (a0 :: a1 :: some (va_rf q) :: r) st h o) : EvO E M d cv pc (a0 :: a1 :: a2 :: r) (va_rf q :: st) h o := by
  subst hn
  cases q with
  | none => exact ev_liftL (fun hS hL w => lv_astore_nN hS.1 hS.2.1 hd rfl hL.has hi rfl (fun ls' h' => w ls' (hL.of h' rfl))) k
  | some a => exact ev_liftL (fun hS hL w => lv_astore_n hS.1 hS.2.1 hd rfl hL.has hi rfl (fun ls' h' => w ls' (hL.of h' rfl))) k
theorem ev_iinc2 (n : Nat) {a0 a1 : Option Value} {r : List (Option Value)} {z y : Int} (hd : decode (mB M) pc = .ok (.iinc 2 y, 3)) (hi : 2 < mL M) (hn : n = pc + 3) (k : EvO E M d cv n (a0 :: a1 :: some (eI (z + y)) :: r) st h o) : EvO E M d cv pc (a0 :: a1 :: some (eI z) :: r) st h o := by
  subst hn
  refine ev_liftL (fun hS hL w => ?_) k
  obtain ⟨k9, hk9⟩ := List.getElem?_of_mem (ev_al_mem.mpr (show (a0 :: a1 :: some (eI z) :: r)[2]? = some (some (eI z)) from rfl))
  exact lv_iinc hS.1 hS.2.1 hd hL.has hk9 (eI_add z y) hi rfl (fun ls' h' => w ls' (hL.of h' rfl))
theorem ev_iload3 (n : Nat) {a0 a1 a2 : Option Value} {r : List (Option Value)} {z : Int} (hd : decode (mB M) pc = .ok (.iload_n (3 : Fin 4), 1)) (hn : n = pc + 1) (k : EvO E M d cv n (a0 :: a1 :: a2 :: some (eI z) :: r) (eI z :: st) h o) : EvO E M d cv pc (a0 :: a1 :: a2 :: some (eI z) :: r) st h o := by
  subst hn
  exact ev_lift (fun hS hL w => lv_iload_n hS.1 hS.2.1 hd rfl (hL.2.2 3 (eI z) rfl).1 w) k
theorem ev_aload3 (n : Nat) {a0 a1 a2 : Option Value} {r : List (Option Value)} {q : Option Nat} (hd : decode (mB M) pc = .ok (.aload_n (3 : Fin 4), 1)) (hn : n = pc + 1) (k : EvO E M d cv n (a0 :: a1 :: a2 :: some (va_rf q) :: r) (va_rf q :: st) h o) : EvO E M d cv pc (a0 :: a1 :: a2 :: some (va_rf q) :: r) st h o := by
  subst hn
  refine ev_lift (fun hS hL w => ?_) k
  have hl := (hL.2.2 3 (va_rf q) rfl).1
  cases q with
  | none => exact lv_aload_nN hS.1 hS.2.1 hd rfl hl w
  | some a => exact lv_aload_n hS.1 hS.2.1 hd rfl hl w
theorem ev_istore3 (n : Nat) {a0 a1 a2 : Option Value} {a3 : Option Value} {r : List (Option Value)} {z : Int} (hd : decode (mB M) pc = .ok (.istore_n (3 : Fin 4), 1)) (hi : 3 < mL M) (hn : n = pc + 1) (k : EvO E M d cv n (a0 :: a1 :: a2 :: some (eI z) :: r) st h o) : EvO E M d cv pc (a0 :: a1 :: a2 :: a3 :: r) (eI z :: st) h o := by
  subst hn
  exact ev_liftL (fun hS hL w => lv_istore_n hS.1 hS.2.1 hd rfl hL.has hi rfl (fun ls' h' => w ls' (hL.of h' rfl))) k
theorem ev_astore3 (n : Nat) {a0 a1 a2 : Option Value} {a3 : Option Value} {r : List (Option Value)} {q : Option Nat} (hd : decode (mB M) pc = .ok (.astore_n (3 : Fin 4), 1)) (hi : 3 < mL M) (hn : n = pc + 1) (k : EvO E M d cv n (a0 :: a1 :: a2 :: some (va_rf q) :: r) st h o) : EvO E M d cv pc (a0 :: a1 :: a2 :: a3 :: r) (va_rf q :: st) h o := by
  subst hn
  cases q with
  | none => exact ev_liftL (fun hS hL w => lv_astore_nN hS.1 hS.2.1 hd rfl hL.has hi rfl (fun ls' h' => w ls' (hL.of h' rfl))) k
  | some a => exact ev_liftL (fun hS hL w => lv_astore_n hS.1 hS.2.1 hd rfl hL.has hi rfl (fun ls' h' => w ls' (hL.of h' rfl))) k
theorem ev_iinc3 (n : Nat) {a0 a1 a2 : Option Value} {r : List (Option Value)} {z y : Int} (hd : decode (mB M) pc = .ok (.iinc 3 y, 3)) (hi : 3 < mL M) (hn : n = pc + 3) (k : EvO E M d cv n (a0 :: a1 :: a2 :: some (eI (z + y)) :: r) st h o) : EvO E M d cv pc (a0 :: a1 :: a2 :: some (eI z) :: r) st h o := by
  subst hn
  refine ev_liftL (fun hS hL w => ?_) k
  obtain ⟨k9, hk9⟩ := List.getElem?_of_mem (ev_al_mem.mpr (show (a0 :: a1 :: a2 :: some (eI z) :: r)[3]? = some (some (eI z)) from rfl))
  exact lv_iinc hS.1 hS.2.1 hd hL.has hk9 (eI_add z y) hi rfl (fun ls' h' => w ls' (hL.of h' rfl))
theorem ev_iload4 (n : Nat) {a0 a1 a2 a3 : Option Value} {r : List (Option Value)} {z : Int} (hd : decode (mB M) pc = .ok (.iload 4, 2)) (hn : n = pc + 2) (k : EvO E M d cv n (a0 :: a1 :: a2 :: a3 :: some (eI z) :: r) (eI z :: st) h o) : EvO E M d cv pc (a0 :: a1 :: a2 :: a3 :: some (eI z) :: r) st h o := by
  subst hn
  exact ev_lift (fun hS hL w => lv_iload hS.1 hS.2.1 hd (hL.2.2 4 (eI z) rfl).1 w) k
theorem ev_aload4 (n : Nat) {a0 a1 a2 a3 : Option Value} {r : List (Option Value)} {q : Option Nat} (hd : decode (mB M) pc = .ok (.aload 4, 2)) (hn : n = pc + 2) (k : EvO E M d cv n (a0 :: a1 :: a2 :: a3 :: some (va_rf q) :: r) (va_rf q :: st) h o) : EvO E M d cv pc (a0 :: a1 :: a2 :: a3 :: some (va_rf q) :: r) st h o := by
  subst hn
  refine ev_lift (fun hS hL w => ?_) k
  have hl := (hL.2.2 4 (va_rf q) rfl).1
  cases q with
  | none => exact lv_aloadN hS.1 hS.2.1 hd hl w
  | some a => exact lv_aload hS.1 hS.2.1 hd hl w
theorem ev_istore4 (n : Nat) {a0 a1 a2 a3 : Option Value} {a4 : Option Value} {r : List (Option Value)} {z : Int} (hd : decode (mB M) pc = .ok (.istore 4, 2)) (hi : 4 < mL M) (hn : n = pc + 2) (k : EvO E M d cv n (a0 :: a1 :: a2 :: a3 :: some (eI z) :: r) st h o) : EvO E M d cv pc (a0 :: a1 :: a2 :: a3 :: a4 :: r) (eI z :: st) h o := by
  subst hn
  exact ev_liftL (fun hS hL w => lv_istore hS.1 hS.2.1 hd hL.has hi rfl (fun ls' h' => w ls' (hL.of h' rfl))) k
theorem ev_astore4 (n : Nat) {a0 a1 a2 a3 : Option Value} {a4 : Option Value} {r : List (Option Value)} {q : Option Nat} (hd : decode (mB M) pc = .ok (.astore 4, 2)) (hi : 4 < mL M) (hn : n = pc + 2) (k : EvO E M d cv n (a0 :: a1 :: a2 :: a3 :: some (va_rf q) :: r) st h o) : EvO E M d cv pc (a0 :: a1 :: a2 :: a3 :: a4 :: r) (va_rf q :: st) h o := by
  subst hn
  cases q with
  | none => exact ev_liftL (fun hS hL w => lv_astoreN hS.1 hS.2.1 hd hL.has hi rfl (fun ls' h' => w ls' (hL.of h' rfl))) k
  | some a => exact ev_liftL (fun hS hL w => lv_astore hS.1 hS.2.1 hd hL.has hi rfl (fun ls' h' => w ls' (hL.of h' rfl))) k
theorem ev_iinc4 (n : Nat) {a0 a1 a2 a3 : Option Value} {r : List (Option Value)} {z y : Int} (hd : decode (mB M) pc = .ok (.iinc 4 y, 3)) (hi : 4 < mL M) (hn : n = pc + 3) (k : EvO E M d cv n (a0 :: a1 :: a2 :: a3 :: some (eI (z + y)) :: r) st h o) : EvO E M d cv pc (a0 :: a1 :: a2 :: a3 :: some (eI z) :: r) st h o := by
  subst hn
  refine ev_liftL (fun hS hL w => ?_) k
  obtain ⟨k9, hk9⟩ := List.getElem?_of_mem (ev_al_mem.mpr (show (a0 :: a1 :: a2 :: a3 :: some (eI z) :: r)[4]? = some (some (eI z)) from rfl))
  exact lv_iinc hS.1 hS.2.1 hd hL.has hk9 (eI_add z y) hi rfl (fun ls' h' => w ls' (hL.of h' rfl))
theorem ev_iload5 (n : Nat) {a0 a1 a2 a3 a4 : Option Value} {r : List (Option Value)} {z : Int} (hd : decode (mB M) pc = .ok (.iload 5, 2)) (hn : n = pc + 2) (k : EvO E M d cv n (a0 :: a1 :: a2 :: a3 :: a4 :: some (eI z) :: r) (eI z :: st) h o) : EvO E M d cv pc (a0 :: a1 :: a2 :: a3 :: a4 :: some (eI z) :: r) st h o := by
  subst hn
  exact ev_lift (fun hS hL w => lv_iload hS.1 hS.2.1 hd (hL.2.2 5 (eI z) rfl).1 w) k
theorem ev_aload5 (n : Nat) {a0 a1 a2 a3 a4 : Option Value} {r : List (Option Value)} {q : Option Nat} (hd : decode (mB M) pc = .ok (.aload 5, 2)) (hn : n = pc + 2) (k : EvO E M d cv n (a0 :: a1 :: a2 :: a3 :: a4 :: some (va_rf q) :: r) (va_rf q :: st) h o) : EvO E M d cv pc (a0 :: a1 :: a2 :: a3 :: a4 :: some (va_rf q) :: r) st h o := by
  subst hn
  refine ev_lift (fun hS hL w => ?_) k
  have hl := (hL.2.2 5 (va_rf q) rfl).1
  cases q with
  | none => exact lv_aloadN hS.1 hS.2.1 hd hl w
  | some a => exact lv_aload hS.1 hS.2.1 hd hl w
theorem ev_istore5 (n : Nat) {a0 a1 a2 a3 a4 : Option Value} {a5 : Option Value} {r : List (Option Value)} {z : Int} (hd : decode (mB M) pc = .ok (.istore 5, 2)) (hi : 5 < mL M) (hn : n = pc + 2) (k : EvO E M d cv n (a0 :: a1 :: a2 :: a3 :: a4 :: some (eI z) :: r) st h o) : EvO E M d cv pc (a0 :: a1 :: a2 :: a3 :: a4 :: a5 :: r) (eI z :: st) h o := by
  subst hn
  exact ev_liftL (fun hS hL w => lv_istore hS.1 hS.2.1 hd hL.has hi rfl (fun ls' h' => w ls' (hL.of h' rfl))) k
theorem ev_astore5 (n : Nat) {a0 a1 a2 a3 a4 : Option Value} {a5 : Option Value} {r : List (Option Value)} {q : Option Nat} (hd : decode (mB M) pc = .ok (.astore 5, 2)) (hi : 5 < mL M) (hn : n = pc + 2) (k : EvO E M d cv n (a0 :: a1 :: a2 :: a3 :: a4 :: some (va_rf q) :: r) st h o) : EvO E M d cv pc (a0 :: a1 :: a2 :: a3 :: a4 :: a5 :: r) (va_rf q :: st) h o := by
  subst hn
  cases q with
  | none => exact ev_liftL (fun hS hL w => lv_astoreN hS.1 hS.2.1 hd hL.has hi rfl (fun ls' h' => w ls' (hL.of h' rfl))) k
  | some a => exact ev_liftL (fun hS hL w => lv_astore hS.1 hS.2.1 hd hL.has hi rfl (fun ls' h' => w ls' (hL.of h' rfl))) k
theorem ev_iinc5 (n : Nat) {a0 a1 a2 a3 a4 : Option Value} {r : List (Option Value)} {z y : Int} (hd : decode (mB M) pc = .ok (.iinc 5 y, 3)) (hi : 5 < mL M) (hn : n = pc + 3) (k : EvO E M d cv n (a0 :: a1 :: a2 :: a3 :: a4 :: some (eI (z + y)) :: r) st h o) : EvO E M d cv pc (a0 :: a1 :: a2 :: a3 :: a4 :: some (eI z) :: r) st h o := by
  subst hn
  refine ev_liftL (fun hS hL w => ?_) k
  obtain ⟨k9, hk9⟩ := List.getElem?_of_mem (ev_al_mem.mpr (show (a0 :: a1 :: a2 :: a3 :: a4 :: some (eI z) :: r)[5]? = some (some (eI z)) from rfl))
  exact lv_iinc hS.1 hS.2.1 hd hL.has hk9 (eI_add z y) hi rfl (fun ls' h' => w ls' (hL.of h' rfl))
theorem ev_iload6 (n : Nat) {a0 a1 a2 a3 a4 a5 : Option Value} {r : List (Option Value)} {z : Int} (hd : decode (mB M) pc = .ok (.iload 6, 2)) (hn : n = pc + 2) (k : EvO E M d cv n (a0 :: a1 :: a2 :: a3 :: a4 :: a5 :: some (eI z) :: r) (eI z :: st) h o) : EvO E M d cv pc (a0 :: a1 :: a2 :: a3 :: a4 :: a5 :: some (eI z) :: r) st h o := by
  subst hn
  exact ev_lift (fun hS hL w => lv_iload hS.1 hS.2.1 hd (hL.2.2 6 (eI z) rfl).1 w) k
theorem ev_aload6 (n : Nat) {a0 a1 a2 a3 a4 a5 : Option Value} {r : List (Option Value)} {q : Option Nat} (hd : decode (mB M) pc = .ok (.aload 6, 2)) (hn : n = pc + 2) (k : EvO E M d cv n (a0 :: a1 :: a2 :: a3 :: a4 :: a5 :: some (va_rf q) :: r) (va_rf q :: st) h o) : EvO E M d cv pc (a0 :: a1 :: a2 :: a3 :: a4 :: a5 :: some (va_rf q) :: r) st h o := by
  subst hn
  refine ev_lift (fun hS hL w => ?_) k
  have hl := (hL.2.2 6 (va_rf q) rfl).1
  cases q with
  | none => exact lv_aloadN hS.1 hS.2.1 hd hl w
  | some a => exact lv_aload hS.1 hS.2.1 hd hl w
theorem ev_istore6 (n : Nat) {a0 a1 a2 a3 a4 a5 : Option Value} {a6 : Option Value} {r : List (Option Value)} {z : Int} (hd : decode (mB M) pc = .ok (.istore 6, 2)) (hi : 6 < mL M) (hn : n = pc + 2) (k : EvO E M d cv n (a0 :: a1 :: a2 :: a3 :: a4 :: a5 :: some (eI z) :: r) st h o) : EvO E M d cv pc (a0 :: a1 :: a2 :: a3 :: a4 :: a5 :: a6 :: r) (eI z :: st) h o := by
  subst hn
  exact ev_liftL (fun hS hL w => lv_istore hS.1 hS.2.1 hd hL.has hi rfl (fun ls' h' => w ls' (hL.of h' rfl))) k
theorem ev_astore6 (n : Nat) {a0 a1 a2 a3 a4 a5 : Option Value} {a6 : Option Value} {r : List (Option Value)} {q : Option Nat} (hd : decode (mB M) pc = .ok (.astore 6, 2)) (hi : 6 < mL M) (hn : n = pc + 2) (k : EvO E M d cv n (a0 :: a1 :: a2 :: a3 :: a4 :: a5 :: some (va_rf q) :: r) st h o) : EvO E M d cv pc (a0 :: a1 :: a2 :: a3 :: a4 :: a5 :: a6 :: r) (va_rf q :: st) h o := by
  subst hn
  cases q with
  | none => exact ev_liftL (fun hS hL w => lv_astoreN hS.1 hS.2.1 hd hL.has hi rfl (fun ls' h' => w ls' (hL.of h' rfl))) k
  | some a => exact ev_liftL (fun hS hL w => lv_astore hS.1 hS.2.1 hd hL.has hi rfl (fun ls' h' => w ls' (hL.of h' rfl))) k
theorem ev_iinc6 (n : Nat) {a0 a1 a2 a3 a4 a5 : Option Value} {r : List (Option Value)} {z y : Int} (hd : decode (mB M) pc = .ok (.iinc 6 y, 3)) (hi : 6 < mL M) (hn : n = pc + 3) (k : EvO E M d cv n (a0 :: a1 :: a2 :: a3 :: a4 :: a5 :: some (eI (z + y)) :: r) st h o) : EvO E M d cv pc (a0 :: a1 :: a2 :: a3 :: a4 :: a5 :: some (eI z) :: r) st h o := by
  subst hn
  refine ev_liftL (fun hS hL w => ?_) k
  obtain ⟨k9, hk9⟩ := List.getElem?_of_mem (ev_al_mem.mpr (show (a0 :: a1 :: a2 :: a3 :: a4 :: a5 :: some (eI z) :: r)[6]? = some (some (eI z)) from rfl))
  exact lv_iinc hS.1 hS.2.1 hd hL.has hk9 (eI_add z y) hi rfl (fun ls' h' => w ls' (hL.of h' rfl))
theorem ev_iload7 (n : Nat) {a0 a1 a2 a3 a4 a5 a6 : Option Value} {r : List (Option Value)} {z : Int} (hd : decode (mB M) pc = .ok (.iload 7, 2)) (hn : n = pc + 2) (k : EvO E M d cv n (a0 :: a1 :: a2 :: a3 :: a4 :: a5 :: a6 :: some (eI z) :: r) (eI z :: st) h o) : EvO E M d cv pc (a0 :: a1 :: a2 :: a3 :: a4 :: a5 :: a6 :: some (eI z) :: r) st h o := by
  subst hn
  exact ev_lift (fun hS hL w => lv_iload hS.1 hS.2.1 hd (hL.2.2 7 (eI z) rfl).1 w) k
theorem ev_aload7 (n : Nat) {a0 a1 a2 a3 a4 a5 a6 : Option Value} {r : List (Option Value)} {q : Option Nat} (hd : decode (mB M) pc = .ok (.aload 7, 2)) (hn : n = pc + 2) (k : EvO E M d cv n (a0 :: a1 :: a2 :: a3 :: a4 :: a5 :: a6 :: some (va_rf q) :: r) (va_rf q :: st) h o) : EvO E M d cv pc (a0 :: a1 :: a2 :: a3 :: a4 :: a5 :: a6 :: some (va_rf q) :: r) st h o := by
  subst hn
  refine ev_lift (fun hS hL w => ?_) k
  have hl := (hL.2.2 7 (va_rf q) rfl).1
  cases q with
  | none => exact lv_aloadN hS.1 hS.2.1 hd hl w
  | some a => exact lv_aload hS.1 hS.2.1 hd hl w
theorem ev_istore7 (n : Nat) {a0 a1 a2 a3 a4 a5 a6 : Option Value} {a7 : Option Value} {r : List (Option Value)} {z : Int} (hd : decode (mB M) pc = .ok (.istore 7, 2)) (hi : 7 < mL M) (hn : n = pc + 2) (k : EvO E M d cv n (a0 :: a1 :: a2 :: a3 :: a4 :: a5 :: a6 :: some (eI z) :: r) st h o) : EvO E M d cv pc (a0 :: a1 :: a2 :: a3 :: a4 :: a5 :: a6 :: a7 :: r) (eI z :: st) h o := by
  subst hn
  exact ev_liftL (fun hS hL w => lv_istore hS.1 hS.2.1 hd hL.has hi rfl (fun ls' h' => w ls' (hL.of h' rfl))) k
theorem ev_astore7 (n : Nat) {a0 a1 a2 a3 a4 a5 a6 : Option Value} {a7 : Option Value} {r : List (Option Value)} {q : Option Nat} (hd : decode (mB M) pc = .ok (.astore 7, 2)) (hi : 7 < mL M) (hn : n = pc + 2) (k : EvO E M d cv n (a0 :: a1 :: a2 :: a3 :: a4 :: a5 :: a6 :: some (va_rf q) :: r) st h o) : EvO E M d cv pc (a0 :: a1 :: a2 :: a3 :: a4 :: a5 :: a6 :: a7 :: r) (va_rf q :: st) h o := by
  subst hn
  cases q with
  | none => exact ev_liftL (fun hS hL w => lv_astoreN hS.1 hS.2.1 hd hL.has hi rfl (fun ls' h' => w ls' (hL.of h' rfl))) k
  | some a => exact ev_liftL (fun hS hL w => lv_astore hS.1 hS.2.1 hd hL.has hi rfl (fun ls' h' => w ls' (hL.of h' rfl))) k
theorem ev_iinc7 (n : Nat) {a0 a1 a2 a3 a4 a5 a6 : Option Value} {r : List (Option Value)} {z y : Int} (hd : decode (mB M) pc = .ok (.iinc 7 y, 3)) (hi : 7 < mL M) (hn : n = pc + 3) (k : EvO E M d cv n (a0 :: a1 :: a2 :: a3 :: a4 :: a5 :: a6 :: some (eI (z + y)) :: r) st h o) : EvO E M d cv pc (a0 :: a1 :: a2 :: a3 :: a4 :: a5 :: a6 :: some (eI z) :: r) st h o := by
  subst hn
  refine ev_liftL (fun hS hL w => ?_) k
  obtain ⟨k9, hk9⟩ := List.getElem?_of_mem (ev_al_mem.mpr (show (a0 :: a1 :: a2 :: a3 :: a4 :: a5 :: a6 :: some (eI z) :: r)[7]? = some (some (eI z)) from rfl))
  exact lv_iinc hS.1 hS.2.1 hd hL.has hk9 (eI_add z y) hi rfl (fun ls' h' => w ls' (hL.of h' rfl))
theorem ev_iload8 (n : Nat) {a0 a1 a2 a3 a4 a5 a6 a7 : Option Value} {r : List (Option Value)} {z : Int} (hd : decode (mB M) pc = .ok (.iload 8, 2)) (hn : n = pc + 2) (k : EvO E M d cv n (a0 :: a1 :: a2 :: a3 :: a4 :: a5 :: a6 :: a7 :: some (eI z) :: r) (eI z :: st) h o) : EvO E M d cv pc (a0 :: a1 :: a2 :: a3 :: a4 :: a5 :: a6 :: a7 :: some (eI z) :: r) st h o := by
  subst hn
  exact ev_lift (fun hS hL w => lv_iload hS.1 hS.2.1 hd (hL.2.2 8 (eI z) rfl).1 w) k
theorem ev_aload8 (n : Nat) {a0 a1 a2 a3 a4 a5 a6 a7 : Option Value} {r : List (Option Value)} {q : Option Nat} (hd : decode (mB M) pc = .ok (.aload 8, 2)) (hn : n = pc + 2) (k : EvO E M d cv n (a0 :: a1 :: a2 :: a3 :: a4 :: a5 :: a6 :: a7 :: some (va_rf q) :: r) (va_rf q :: st) h o) : EvO E M d cv pc (a0 :: a1 :: a2 :: a3 :: a4 :: a5 :: a6 :: a7 :: some (va_rf q) :: r) st h o := by
  subst hn
  refine ev_lift (fun hS hL w => ?_) k
  have hl := (hL.2.2 8 (va_rf q) rfl).1
  cases q with
  | none => exact lv_aloadN hS.1 hS.2.1 hd hl w
  | some a => exact lv_aload hS.1 hS.2.1 hd hl w
theorem ev_istore8 (n : Nat) {a0 a1 a2 a3 a4 a5 a6 a7 : Option Value} {a8 : Option Value} {r : List (Option Value)} {z : Int} (hd : decode (mB M) pc = .ok (.istore 8, 2)) (hi : 8 < mL M) (hn : n = pc + 2) (k : EvO E M d cv n (a0 :: a1 :: a2 :: a3 :: a4 :: a5 :: a6 :: a7 :: some (eI z) :: r) st h o) : EvO E M d cv pc (a0 :: a1 :: a2 :: a3 :: a4 :: a5 :: a6 :: a7 :: a8 :: r) (eI z :: st) h o := by
  subst hn
  exact ev_liftL (fun hS hL w => lv_istore hS.1 hS.2.1 hd hL.has hi rfl (fun ls' h' => w ls' (hL.of h' rfl))) k
theorem ev_astore8 (n : Nat) {a0 a1 a2 a3 a4 a5 a6 a7 : Option Value} {a8 : Option Value} {r : List (Option Value)} {q : Option Nat} (hd : decode (mB M) pc = .ok (.astore 8, 2)) (hi : 8 < mL M) (hn : n = pc + 2) (k : EvO E M d cv n (a0 :: a1 :: a2 :: a3 :: a4 :: a5 :: a6 :: a7 :: some (va_rf q) :: r) st h o) : EvO E M d cv pc (a0 :: a1 :: a2 :: a3 :: a4 :: a5 :: a6 :: a7 :: a8 :: r) (va_rf q :: st) h o := by
  subst hn
  cases q with
  | none => exact ev_liftL (fun hS hL w => lv_astoreN hS.1 hS.2.1 hd hL.has hi rfl (fun ls' h' => w ls' (hL.of h' rfl))) k
  | some a => exact ev_liftL (fun hS hL w => lv_astore hS.1 hS.2.1 hd hL.has hi rfl (fun ls' h' => w ls' (hL.of h' rfl))) k
theorem ev_iinc8 (n : Nat) {a0 a1 a2 a3 a4 a5 a6 a7 : Option Value} {r : List (Option Value)} {z y : Int} (hd : decode (mB M) pc = .ok (.iinc 8 y, 3)) (hi : 8 < mL M) (hn : n = pc + 3) (k : EvO E M d cv n (a0 :: a1 :: a2 :: a3 :: a4 :: a5 :: a6 :: a7 :: some (eI (z + y)) :: r) st h o) : EvO E M d cv pc (a0 :: a1 :: a2 :: a3 :: a4 :: a5 :: a6 :: a7 :: some (eI z) :: r) st h o := by
  subst hn
  refine ev_liftL (fun hS hL w => ?_) k
  obtain ⟨k9, hk9⟩ := List.getElem?_of_mem (ev_al_mem.mpr (show (a0 :: a1 :: a2 :: a3 :: a4 :: a5 :: a6 :: a7 :: some (eI z) :: r)[8]? = some (some (eI z)) from rfl))
  exact lv_iinc hS.1 hS.2.1 hd hL.has hk9 (eI_add z y) hi rfl (fun ls' h' => w ls' (hL.of h' rfl))
theorem ev_iload9 (n : Nat) {a0 a1 a2 a3 a4 a5 a6 a7 a8 : Option Value} {r : List (Option Value)} {z : Int} (hd : decode (mB M) pc = .ok (.iload 9, 2)) (hn : n = pc + 2) (k : EvO E M d cv n (a0 :: a1 :: a2 :: a3 :: a4 :: a5 :: a6 :: a7 :: a8 :: some (eI z) :: r) (eI z :: st) h o) : EvO E M d cv pc (a0 :: a1 :: a2 :: a3 :: a4 :: a5 :: a6 :: a7 :: a8 :: some (eI z) :: r) st h o := by
  subst hn
  exact ev_lift (fun hS hL w => lv_iload hS.1 hS.2.1 hd (hL.2.2 9 (eI z) rfl).1 w) k
theorem ev_aload9 (n : Nat) {a0 a1 a2 a3 a4 a5 a6 a7 a8 : Option Value} {r : List (Option Value)} {q : Option Nat} (hd : decode (mB M) pc = .ok (.aload 9, 2)) (hn : n = pc + 2) (k : EvO E M d cv n (a0 :: a1 :: a2 :: a3 :: a4 :: a5 :: a6 :: a7 :: a8 :: some (va_rf q) :: r) (va_rf q :: st) h o) : EvO E M d cv pc (a0 :: a1 :: a2 :: a3 :: a4 :: a5 :: a6 :: a7 :: a8 :: some (va_rf q) :: r) st h o := by
  subst hn
  refine ev_lift (fun hS hL w => ?_) k
  have hl := (hL.2.2 9 (va_rf q) rfl).1
  cases q with
  | none => exact lv_aloadN hS.1 hS.2.1 hd hl w
  | some a => exact lv_aload hS.1 hS.2.1 hd hl w
theorem ev_istore9 (n : Nat) {a0 a1 a2 a3 a4 a5 a6 a7 a8 : Option Value} {a9 : Option Value} {r : List (Option Value)} {z : Int} (hd : decode (mB M) pc = .ok (.istore 9, 2)) (hi : 9 < mL M) (hn : n = pc + 2) (k : EvO E M d cv n (a0 :: a1 :: a2 :: a3 :: a4 :: a5 :: a6 :: a7 :: a8 :: some (eI z) :: r) st h o) : EvO E M d cv pc (a0 :: a1 :: a2 :: a3 :: a4 :: a5 :: a6 :: a7 :: a8 :: a9 :: r) (eI z :: st) h o := by
  subst hn
  exact ev_liftL (fun hS hL w => lv_istore hS.1 hS.2.1 hd hL.has hi rfl (fun ls' h' => w ls' (hL.of h' rfl))) k
theorem ev_astore9 (n : Nat) {a0 a1 a2 a3 a4 a5 a6 a7 a8 : Option Value} {a9 : Option Value} {r : List (Option Value)} {q : Option Nat} (hd : decode (mB M) pc = .ok (.astore 9, 2)) (hi : 9 < mL M) (hn : n = pc + 2) (k : EvO E M d cv n (a0 :: a1 :: a2 :: a3 :: a4 :: a5 :: a6 :: a7 :: a8 :: some (va_rf q) :: r) st h o) : EvO E M d cv pc (a0 :: a1 :: a2 :: a3 :: a4 :: a5 :: a6 :: a7 :: a8 :: a9 :: r) (va_rf q :: st) h o := by
  subst hn
  cases q with
  | none => exact ev_liftL (fun hS hL w => lv_astoreN hS.1 hS.2.1 hd hL.has hi rfl (fun ls' h' => w ls' (hL.of h' rfl))) k
  | some a => exact ev_liftL (fun hS hL w => lv_astore hS.1 hS.2.1 hd hL.has hi rfl (fun ls' h' => w ls' (hL.of h' rfl))) k
theorem ev_iinc9 (n : Nat) {a0 a1 a2 a3 a4 a5 a6 a7 a8 : Option Value} {r : List (Option Value)} {z y : Int} (hd : decode (mB M) pc = .ok (.iinc 9 y, 3)) (hi : 9 < mL M) (hn : n = pc + 3) (k : EvO E M d cv n (a0 :: a1 :: a2 :: a3 :: a4 :: a5 :: a6 :: a7 :: a8 :: some (eI (z + y)) :: r) st h o) : EvO E M d cv pc (a0 :: a1 :: a2 :: a3 :: a4 :: a5 :: a6 :: a7 :: a8 :: some (eI z) :: r) st h o := by
  subst hn
  refine ev_liftL (fun hS hL w => ?_) k
  obtain ⟨k9, hk9⟩ := List.getElem?_of_mem (ev_al_mem.mpr (show (a0 :: a1 :: a2 :: a3 :: a4 :: a5 :: a6 :: a7 :: a8 :: some (eI z) :: r)[9]? = some (some (eI z)) from rfl))
  exact lv_iinc hS.1 hS.2.1 hd hL.has hk9 (eI_add z y) hi rfl (fun ls' h' => w ls' (hL.of h' rfl))
theorem ev_iload10 (n : Nat) {a0 a1 a2 a3 a4 a5 a6 a7 a8 a9 : Option Value} {r : List (Option Value)} {z : Int} (hd : decode (mB M) pc = .ok (.iload 10, 2)) (hn : n = pc + 2) (k : EvO E M d cv n (a0 :: a1 :: a2 :: a3 :: a4 :: a5 :: a6 :: a7 :: a8 :: a9 :: some (eI z) :: r) (eI z :: st) h o) : EvO E M d cv pc (a0 :: a1 :: a2 :: a3 :: a4 :: a5 :: a6 :: a7 :: a8 :: a9 :: some (eI z) :: r) st h o := by
  subst hn
  exact ev_lift (fun hS hL w => lv_iload hS.1 hS.2.1 hd (hL.2.2 10 (eI z) rfl).1 w) k
theorem ev_aload10 (n : Nat) {a0 a1 a2 a3 a4 a5 a6 a7 a8 a9 : Option Value} {r : List (Option Value)} {q : Option Nat} (hd : decode (mB M) pc = .ok (.aload 10, 2)) (hn : n = pc + 2) (k : EvO E M d cv n (a0 :: a1 :: a2 :: a3 :: a4 :: a5 :: a6 :: a7 :: a8 :: a9 :: some (va_rf q) :: r) (va_rf q :: st) h o) : EvO E M d cv pc (a0 :: a1 :: a2 :: a3 :: a4 :: a5 :: a6 :: a7 :: a8 :: a9 :: some (va_rf q) :: r) st h o := by
  subst hn
  refine ev_lift (fun hS hL w => ?_) k
  have hl := (hL.2.2 10 (va_rf q) rfl).1
  cases q with
  | none => exact lv_aloadN hS.1 hS.2.1 hd hl w
  | some a => exact lv_aload hS.1 hS.2.1 hd hl w
theorem ev_istore10 (n : Nat) {a0 a1 a2 a3 a4 a5 a6 a7 a8 a9 : Option Value} {a10 : Option Value} {r : List (Option Value)} {z : Int} (hd : decode (mB M) pc = .ok (.istore 10, 2)) (hi : 10 < mL M) (hn : n = pc + 2) (k : EvO E M d cv n (a0 :: a1 :: a2 :: a3 :: a4 :: a5 :: a6 :: a7 :: a8 :: a9 :: some (eI z) :: r) st h o) : EvO E M d cv pc (a0 :: a1 :: a2 :: a3 :: a4 :: a5 :: a6 :: a7 :: a8 :: a9 :: a10 :: r) (eI z :: st) h o := by
  subst hn
  exact ev_liftL (fun hS hL w => lv_istore hS.1 hS.2.1 hd hL.has hi rfl (fun ls' h' => w ls' (hL.of h' rfl))) k
theorem ev_astore10 (n : Nat) {a0 a1 a2 a3 a4 a5 a6 a7 a8 a9 : Option Value} {a10 : Option Value} {r : List (Option Value)} {q : Option Nat} (hd : decode (mB M) pc = .ok (.astore 10, 2)) (hi : 10 < mL M) (hn : n = pc + 2) (k : EvO E M d cv n (a0 :: a1 :: a2 :: a3 :: a4 :: a5 :: a6 :: a7 :: a8 :: a9 :: some (va_rf q) :: r) st h o) : EvO E M d cv pc (a0 :: a1 :: a2 :: a3 :: a4 :: a5 :: a6 :: a7 :: a8 :: a9 :: a10 :: r) (va_rf q :: st) h o := by
  subst hn
  cases q with
  | none => exact ev_liftL (fun hS hL w => lv_astoreN hS.1 hS.2.1 hd hL.has hi rfl (fun ls' h' => w ls' (hL.of h' rfl))) k
  | some a => exact ev_liftL (fun hS hL w => lv_astore hS.1 hS.2.1 hd hL.has hi rfl (fun ls' h' => w ls' (hL.of h' rfl))) k
theorem ev_iinc10 (n : Nat) {a0 a1 a2 a3 a4 a5 a6 a7 a8 a9 : Option Value} {r : List (Option Value)} {z y : Int} (hd : decode (mB M) pc = .ok (.iinc 10 y, 3)) (hi : 10 < mL M) (hn : n = pc + 3) (k : EvO E M d cv n (a0 :: a1 :: a2 :: a3 :: a4 :: a5 :: a6 :: a7 :: a8 :: a9 :: some (eI (z + y)) :: r) st h o) : EvO E M d cv pc (a0 :: a1 :: a2 :: a3 :: a4 :: a5 :: a6 :: a7 :: a8 :: a9 :: some (eI z) :: r) st h o := by
  subst hn
  refine ev_liftL (fun hS hL w => ?_) k
  obtain ⟨k9, hk9⟩ := List.getElem?_of_mem (ev_al_mem.mpr (show (a0 :: a1 :: a2 :: a3 :: a4 :: a5 :: a6 :: a7 :: a8 :: a9 :: some (eI z) :: r)[10]? = some (some (eI z)) from rfl))
  exact lv_iinc hS.1 hS.2.1 hd hL.has hk9 (eI_add z y) hi rfl (fun ls' h' => w ls' (hL.of h' rfl))
theorem ev_iload11 (n : Nat) {a0 a1 a2 a3 a4 a5 a6 a7 a8 a9 a10 : Option Value} {r : List (Option Value)} {z : Int} (hd : decode (mB M) pc = .ok (.iload 11, 2)) (hn : n = pc + 2) (k : EvO E M d cv n (a0 :: a1 :: a2 :: a3 :: a4 :: a5 :: a6 :: a7 :: a8 :: a9 :: a10 :: some (eI z) :: r) (eI z :: st) h o) : EvO E M d cv pc (a0 :: a1 :: a2 :: a3 :: a4 :: a5 :: a6 :: a7 :: a8 :: a9 :: a10 :: some (eI z) :: r) st h o := by
  subst hn
  exact ev_lift (fun hS hL w => lv_iload hS.1 hS.2.1 hd (hL.2.2 11 (eI z) rfl).1 w) k
theorem ev_aload11 (n : Nat) {a0 a1 a2 a3 a4 a5 a6 a7 a8 a9 a10 : Option Value} {r : List (Option Value)} {q : Option Nat} (hd : decode (mB M) pc = .ok (.aload 11, 2)) (hn : n = pc + 2) (k : EvO E M d cv n (a0 :: a1 :: a2 :: a3 :: a4 :: a5 :: a6 :: a7 :: a8 :: a9 :: a10 :: some (va_rf q) :: r) (va_rf q :: st) h o) : EvO E M d cv pc (a0 :: a1 :: a2 :: a3 :: a4 :: a5 :: a6 :: a7 :: a8 :: a9 :: a10 :: some (va_rf q) :: r) st h o := by
  subst hn
  refine ev_lift (fun hS hL w => ?_) k
  have hl := (hL.2.2 11 (va_rf q) rfl).1
  cases q with
  | none => exact lv_aloadN hS.1 hS.2.1 hd hl w
  | some a => exact lv_aload hS.1 hS.2.1 hd hl w
theorem ev_istore11 (n : Nat) {a0 a1 a2 a3 a4 a5 a6 a7 a8 a9 a10 : Option Value} {a11 : Option Value} {r : List (Option Value)} {z : Int} (hd : decode (mB M) pc = .ok (.istore 11, 2)) (hi : 11 < mL M) (hn : n = pc + 2) (k : EvO E M d cv n (a0 :: a1 :: a2 :: a3 :: a4 :: a5 :: a6 :: a7 :: a8 :: a9 :: a10 :: some (eI z) :: r) st h o) : EvO E M d cv pc (a0 :: a1 :: a2 :: a3 :: a4 :: a5 :: a6 :: a7 :: a8 :: a9 :: a10 :: a11 :: r) (eI z :: st) h o := by
  subst hn
  exact ev_liftL (fun hS hL w => lv_istore hS.1 hS.2.1 hd hL.has hi rfl (fun ls' h' => w ls' (hL.of h' rfl))) k
theorem ev_astore11 (n : Nat) {a0 a1 a2 a3 a4 a5 a6 a7 a8 a9 a10 : Option Value} {a11 : Option Value} {r : List (Option Value)} {q : Option Nat} (hd : decode (mB M) pc = .ok (.astore 11, 2)) (hi : 11 < mL M) (hn : n = pc + 2) (k : EvO E M d cv n (a0 :: a1 :: a2 :: a3 :: a4 :: a5 :: a6 :: a7 :: a8 :: a9 :: a10 :: some (va_rf q) :: r) st h o) : EvO E M d cv pc (a0 :: a1 :: a2 :: a3 :: a4 :: a5 :: a6 :: a7 :: a8 :: a9 :: a10 :: a11 :: r) (va_rf q :: st) h o := by
  subst hn
  cases q with
  | none => exact ev_liftL (fun hS hL w => lv_astoreN hS.1 hS.2.1 hd hL.has hi rfl (fun ls' h' => w ls' (hL.of h' rfl))) k
  | some a => exact ev_liftL (fun hS hL w => lv_astore hS.1 hS.2.1 hd hL.has hi rfl (fun ls' h' => w ls' (hL.of h' rfl))) k
theorem ev_iinc11 (n : Nat) {a0 a1 a2 a3 a4 a5 a6 a7 a8 a9 a10 : Option Value} {r : List (Option Value)} {z y : Int} (hd : decode (mB M) pc = .ok (.iinc 11 y, 3)) (hi : 11 < mL M) (hn : n = pc + 3) (k : EvO E M d cv n (a0 :: a1 :: a2 :: a3 :: a4 :: a5 :: a6 :: a7 :: a8 :: a9 :: a10 :: some (eI (z + y)) :: r) st h o) : EvO E M d cv pc (a0 :: a1 :: a2 :: a3 :: a4 :: a5 :: a6 :: a7 :: a8 :: a9 :: a10 :: some (eI z) :: r) st h o := by
  subst hn
  refine ev_liftL (fun hS hL w => ?_) k
  obtain ⟨k9, hk9⟩ := List.getElem?_of_mem (ev_al_mem.mpr (show (a0 :: a1 :: a2 :: a3 :: a4 :: a5 :: a6 :: a7 :: a8 :: a9 :: a10 :: some (eI z) :: r)[11]? = some (some (eI z)) from rfl))
  exact lv_iinc hS.1 hS.2.1 hd hL.has hk9 (eI_add z y) hi rfl (fun ls' h' => w ls' (hL.of h' rfl))
theorem ev_iload12 (n : Nat) {a0 a1 a2 a3 a4 a5 a6 a7 a8 a9 a10 a11 : Option Value} {r : List (Option Value)} {z : Int} (hd : decode (mB M) pc = .ok (.iload 12, 2)) (hn : n = pc + 2) (k : EvO E M d cv n (a0 :: a1 :: a2 :: a3 :: a4 :: a5 :: a6 :: a7 :: a8 :: a9 :: a10 :: a11 :: some (eI z) :: r) (eI z :: st) h o) : EvO E M d cv pc (a0 :: a1 :: a2 :: a3 :: a4 :: a5 :: a6 :: a7 :: a8 :: a9 :: a10 :: a11 :: some (eI z) :: r) st h o := by
  subst hn
  exact ev_lift (fun hS hL w => lv_iload hS.1 hS.2.1 hd (hL.2.2 12 (eI z) rfl).1 w) k
theorem ev_aload12 (n : Nat) {a0 a1 a2 a3 a4 a5 a6 a7 a8 a9 a10 a11 : Option Value} {r : List (Option Value)} {q : Option Nat} (hd : decode (mB M) pc = .ok (.aload 12, 2)) (hn : n = pc + 2) (k : EvO E M d cv n (a0 :: a1 :: a2 :: a3 :: a4 :: a5 :: a6 :: a7 :: a8 :: a9 :: a10 :: a11 :: some (va_rf q) :: r) (va_rf q :: st) h o) : EvO E M d cv pc (a0 :: a1 :: a2 :: a3 :: a4 :: a5 :: a6 :: a7 :: a8 :: a9 :: a10 :: a11 :: some (va_rf q) :: r) st h o := by
  subst hn
  refine ev_lift (fun hS hL w => ?_) k
  have hl := (hL.2.2 12 (va_rf q) rfl).1
  cases q with
  | none => exact lv_aloadN hS.1 hS.2.1 hd hl w
  | some a => exact lv_aload hS.1 hS.2.1 hd hl w
theorem ev_istore12 (n : Nat) {a0 a1 a2 a3 a4 a5 a6 a7 a8 a9 a10 a11 : Option Value} {a12 : Option Value} {r : List (Option Value)} {z : Int} (hd : decode (mB M) pc = .ok (.istore 12, 2)) (hi : 12 < mL M) (hn : n = pc + 2) (k : EvO E M d cv n (a0 :: a1 :: a2 :: a3 :: a4 :: a5 :: a6 :: a7 :: a8 :: a9 :: a10 :: a11 :: some (eI z) :: r) st h o) : EvO E M d cv pc (a0 :: a1 :: a2 :: a3 :: a4 :: a5 :: a6 :: a7 :: a8 :: a9 :: a10 :: a11 :: a12 :: r) (eI z :: st) h o := by
  subst hn
  exact ev_liftL (fun hS hL w => lv_istore hS.1 hS.2.1 hd hL.has hi rfl (fun ls' h' => w ls' (hL.of h' rfl))) k
theorem ev_astore12 (n : Nat) {a0 a1 a2 a3 a4 a5 a6 a7 a8 a9 a10 a11 : Option Value} {a12 : Option Value} {r : List (Option Value)} {q : Option Nat} (hd : decode (mB M) pc = .ok (.astore 12, 2)) (hi : 12 < mL M) (hn : n = pc + 2) (k : EvO E M d cv n (a0 :: a1 :: a2 :: a3 :: a4 :: a5 :: a6 :: a7 :: a8 :: a9 :: a10 :: a11 :: some (va_rf q) :: r) st h o) : EvO E M d cv pc (a0 :: a1 :: a2 :: a3 :: a4 :: a5 :: a6 :: a7 :: a8 :: a9 :: a10 :: a11 :: a12 :: r) (va_rf q :: st) h o := by
  subst hn
  cases q with
  | none => exact ev_liftL (fun hS hL w => lv_astoreN hS.1 hS.2.1 hd hL.has hi rfl (fun ls' h' => w ls' (hL.of h' rfl))) k
  | some a => exact ev_liftL (fun hS hL w => lv_astore hS.1 hS.2.1 hd hL.has hi rfl (fun ls' h' => w ls' (hL.of h' rfl))) k
theorem ev_iinc12 (n : Nat) {a0 a1 a2 a3 a4 a5 a6 a7 a8 a9 a10 a11 : Option Value} {r : List (Option Value)} {z y : Int} (hd : decode (mB M) pc = .ok (.iinc 12 y, 3)) (hi : 12 < mL M) (hn : n = pc + 3) (k : EvO E M d cv n (a0 :: a1 :: a2 :: a3 :: a4 :: a5 :: a6 :: a7 :: a8 :: a9 :: a10 :: a11 :: some (eI (z + y)) :: r) st h o) : EvO E M d cv pc (a0 :: a1 :: a2 :: a3 :: a4 :: a5 :: a6 :: a7 :: a8 :: a9 :: a10 :: a11 :: some (eI z) :: r) st h o := by
  subst hn
  refine ev_liftL (fun hS hL w => ?_) k
  obtain ⟨k9, hk9⟩ := List.getElem?_of_mem (ev_al_mem.mpr (show (a0 :: a1 :: a2 :: a3 :: a4 :: a5 :: a6 :: a7 :: a8 :: a9 :: a10 :: a11 :: some (eI z) :: r)[12]? = some (some (eI z)) from rfl))
  exact lv_iinc hS.1 hS.2.1 hd hL.has hk9 (eI_add z y) hi rfl (fun ls' h' => w ls' (hL.of h' rfl))
theorem ev_iload13 (n : Nat) {a0 a1 a2 a3 a4 a5 a6 a7 a8 a9 a10 a11 a12 : Option Value} {r : List (Option Value)} {z : Int} (hd : decode (mB M) pc = .ok (.iload 13, 2)) (hn : n = pc + 2) (k : EvO E M d cv n (a0 :: a1 :: a2 :: a3 :: a4 :: a5 :: a6 :: a7 :: a8 :: a9 :: a10 :: a11 :: a12 :: some (eI z) :: r) (eI z :: st) h o) : EvO E M d cv pc (a0 :: a1 :: a2 :: a3 :: a4 :: a5 :: a6 :: a7 :: a8 :: a9 :: a10 :: a11 :: a12 :: some (eI z) :: r) st h o := by
  subst hn
  exact ev_lift (fun hS hL w => lv_iload hS.1 hS.2.1 hd (hL.2.2 13 (eI z) rfl).1 w) k
theorem ev_aload13 (n : Nat) {a0 a1 a2 a3 a4 a5 a6 a7 a8 a9 a10 a11 a12 : Option Value} {r : List (Option Value)} {q : Option Nat} (hd : decode (mB M) pc = .ok (.aload 13, 2)) (hn : n = pc + 2) (k : EvO E M d cv n (a0 :: a1 :: a2 :: a3 :: a4 :: a5 :: a6 :: a7 :: a8 :: a9 :: a10 :: a11 :: a12 :: some (va_rf q) :: r) (va_rf q :: st) h o) : EvO E M d cv pc (a0 :: a1 :: a2 :: a3 :: a4 :: a5 :: a6 :: a7 :: a8 :: a9 :: a10 :: a11 :: a12 :: some (va_rf q) :: r) st h o := by
  subst hn
  refine ev_lift (fun hS hL w => ?_) k
  have hl := (hL.2.2 13 (va_rf q) rfl).1
  cases q with
  | none => exact lv_aloadN hS.1 hS.2.1 hd hl w
  | some a => exact lv_aload hS.1 hS.2.1 hd hl w
theorem ev_istore13 (n : Nat) {a0 a1 a2 a3 a4 a5 a6 a7 a8 a9 a10 a11 a12 : Option Value} {a13 : Option Value} {r : List (Option Value)} {z : Int} (hd : decode (mB M) pc = .ok (.istore 13, 2)) (hi : 13 < mL M) (hn : n = pc + 2) (k : EvO E M d cv n (a0 :: a1 :: a2 :: a3 :: a4 :: a5 :: a6 :: a7 :: a8 :: a9 :: a10 :: a11 :: a12 :: some (eI z) :: r) st h o) : EvO E M d cv pc (a0 :: a1 :: a2 :: a3 :: a4 :: a5 :: a6 :: a7 :: a8 :: a9 :: a10 :: a11 :: a12 :: a13 :: r) (eI z :: st) h o := by
  subst hn
  exact ev_liftL (fun hS hL w => lv_istore hS.1 hS.2.1 hd hL.has hi rfl (fun ls' h' => w ls' (hL.of h' rfl))) k
theorem ev_astore13 (n : Nat) {a0 a1 a2 a3 a4 a5 a6 a7 a8 a9 a10 a11 a12 : Option Value} {a13 : Option Value} {r : List (Option Value)} {q : Option Nat} (hd : decode (mB M) pc = .ok (.astore 13, 2)) (hi : 13 < mL M) (hn : n = pc + 2) (k : EvO E M d cv n (a0 :: a1 :: a2 :: a3 :: a4 :: a5 :: a6 :: a7 :: a8 :: a9 :: a10 :: a11 :: a12 :: some (va_rf q) :: r) st h o) : EvO E M d cv pc (a0 :: a1 :: a2 :: a3 :: a4 :: a5 :: a6 :: a7 :: a8 :: a9 :: a10 :: a11 :: a12 :: a13 :: r) (va_rf q :: st) h o := by
  subst hn
  cases q with
  | none => exact ev_liftL (fun hS hL w => lv_astoreN hS.1 hS.2.1 hd hL.has hi rfl (fun ls' h' => w ls' (hL.of h' rfl))) k
  | some a => exact ev_liftL (fun hS hL w => lv_astore hS.1 hS.2.1 hd hL.has hi rfl (fun ls' h' => w ls' (hL.of h' rfl))) k
theorem ev_iinc13 (n : Nat) {a0 a1 a2 a3 a4 a5 a6 a7 a8 a9 a10 a11 a12 : Option Value} {r : List (Option Value)} {z y : Int} (hd : decode (mB M) pc = .ok (.iinc 13 y, 3)) (hi : 13 < mL M) (hn : n = pc + 3) (k : EvO E M d cv n (a0 :: a1 :: a2 :: a3 :: a4 :: a5 :: a6 :: a7 :: a8 :: a9 :: a10 :: a11 :: a12 :: some (eI (z + y)) :: r) st h o) : EvO E M d cv pc (a0 :: a1 :: a2 :: a3 :: a4 :: a5 :: a6 :: a7 :: a8 :: a9 :: a10 :: a11 :: a12 :: some (eI z) :: r) st h o := by
  subst hn
  refine ev_liftL (fun hS hL w => ?_) k
  obtain ⟨k9, hk9⟩ := List.getElem?_of_mem (ev_al_mem.mpr (show (a0 :: a1 :: a2 :: a3 :: a4 :: a5 :: a6 :: a7 :: a8 :: a9 :: a10 :: a11 :: a12 :: some (eI z) :: r)[13]? = some (some (eI z)) from rfl))
  exact lv_iinc hS.1 hS.2.1 hd hL.has hk9 (eI_add z y) hi rfl (fun ls' h' => w ls' (hL.of h' rfl))
theorem ev_iload14 (n : Nat) {a0 a1 a2 a3 a4 a5 a6 a7 a8 a9 a10 a11 a12 a13 : Option Value} {r : List (Option Value)} {z : Int} (hd : decode (mB M) pc = .ok (.iload 14, 2)) (hn : n = pc + 2) (k : EvO E M d cv n (a0 :: a1 :: a2 :: a3 :: a4 :: a5 :: a6 :: a7 :: a8 :: a9 :: a10 :: a11 :: a12 :: a13 :: some (eI z) :: r) (eI z :: st) h o) : EvO E M d cv pc (a0 :: a1 :: a2 :: a3 :: a4 :: a5 :: a6 :: a7 :: a8 :: a9 :: a10 :: a11 :: a12 :: a13 :: some (eI z) :: r) st h o := by
  subst hn
  exact ev_lift (fun hS hL w => lv_iload hS.1 hS.2.1 hd (hL.2.2 14 (eI z) rfl).1 w) k
theorem ev_aload14 (n : Nat) {a0 a1 a2 a3 a4 a5 a6 a7 a8 a9 a10 a11 a12 a13 : Option Value} {r : List (Option Value)} {q : Option Nat} (hd : decode (mB M) pc = .ok (.aload 14, 2)) (hn : n = pc + 2) (k : EvO E M d cv n (a0 :: a1 :: a2 :: a3 :: a4 :: a5 :: a6 :: a7 :: a8 :: a9 :: a10 :: a11 :: a12 :: a13 :: some (va_rf q) :: r) (va_rf q :: st) h o) : EvO E M d cv pc (a0 :: a1 :: a2 :: a3 :: a4 :: a5 :: a6 :: a7 :: a8 :: a9 :: a10 :: a11 :: a12 :: a13 :: some (va_rf q) :: r) st h o := by
  subst hn
  refine ev_lift (fun hS hL w => ?_) k
  have hl := (hL.2.2 14 (va_rf q) rfl).1
  cases q with
  | none => exact lv_aloadN hS.1 hS.2.1 hd hl w
  | some a => exact lv_aload hS.1 hS.2.1 hd hl w
theorem ev_istore14 (n : Nat) {a0 a1 a2 a3 a4 a5 a6 a7 a8 a9 a10 a11 a12 a13 : Option Value} {a14 : Option Value} {r : List (Option Value)} {z : Int} (hd : decode (mB M) pc = .ok (.istore 14, 2)) (hi : 14 < mL M) (hn : n = pc + 2) (k : EvO E M d cv n (a0 :: a1 :: a2 :: a3 :: a4 :: a5 :: a6 :: a7 :: a8 :: a9 :: a10 :: a11 :: a12 :: a13 :: some (eI z) :: r) st h o) : EvO E M d cv pc (a0 :: a1 :: a2 :: a3 :: a4 :: a5 :: a6 :: a7 :: a8 :: a9 :: a10 :: a11 :: a12 :: a13 :: a14 :: r) (eI z :: st) h o := by
  subst hn
  exact ev_liftL (fun hS hL w => lv_istore hS.1 hS.2.1 hd hL.has hi rfl (fun ls' h' => w ls' (hL.of h' rfl))) k
theorem ev_astore14 (n : Nat) {a0 a1 a2 a3 a4 a5 a6 a7 a8 a9 a10 a11 a12 a13 : Option Value} {a14 : Option Value} {r : List (Option Value)} {q : Option Nat} (hd : decode (mB M) pc = .ok (.astore 14, 2)) (hi : 14 < mL M) (hn : n = pc + 2) (k : EvO E M d cv n (a0 :: a1 :: a2 :: a3 :: a4 :: a5 :: a6 :: a7 :: a8 :: a9 :: a10 :: a11 :: a12 :: a13 :: some (va_rf q) :: r) st h o) : EvO E M d cv pc (a0 :: a1 :: a2 :: a3 :: a4 :: a5 :: a6 :: a7 :: a8 :: a9 :: a10 :: a11 :: a12 :: a13 :: a14 :: r) (va_rf q :: st) h o := by
  subst hn
  cases q with
  | none => exact ev_liftL (fun hS hL w => lv_astoreN hS.1 hS.2.1 hd hL.has hi rfl (fun ls' h' => w ls' (hL.of h' rfl))) k
  | some a => exact ev_liftL (fun hS hL w => lv_astore hS.1 hS.2.1 hd hL.has hi rfl (fun ls' h' => w ls' (hL.of h' rfl))) k
theorem ev_iinc14 (n : Nat) {a0 a1 a2 a3 a4 a5 a6 a7 a8 a9 a10 a11 a12 a13 : Option Value} {r : List (Option Value)} {z y : Int} (hd : decode (mB M) pc = .ok (.iinc 14 y, 3)) (hi : 14 < mL M) (hn : n = pc + 3) (k : EvO E M d cv n (a0 :: a1 :: a2 :: a3 :: a4 :: a5 :: a6 :: a7 :: a8 :: a9 :: a10 :: a11 :: a12 :: a13 :: some (eI (z + y)) :: r) st h o) : EvO E M d cv pc (a0 :: a1 :: a2 :: a3 :: a4 :: a5 :: a6 :: a7 :: a8 :: a9 :: a10 :: a11 :: a12 :: a13 :: some (eI z) :: r) st h o := by
  subst hn
  refine ev_liftL (fun hS hL w => ?_) k
  obtain ⟨k9, hk9⟩ := List.getElem?_of_mem (ev_al_mem.mpr (show (a0 :: a1 :: a2 :: a3 :: a4 :: a5 :: a6 :: a7 :: a8 :: a9 :: a10 :: a11 :: a12 :: a13 :: some (eI z) :: r)[14]? = some (some (eI z)) from rfl))
  exact lv_iinc hS.1 hS.2.1 hd hL.has hk9 (eI_add z y) hi rfl (fun ls' h' => w ls' (hL.of h' rfl))
theorem ev_if_eq (t n : Nat) {a : Int} {off : Int} {A B : Option α} (hd : decode (mB M) pc = .ok (.ifCond .eq off, 3)) (ht : (pc : Int) + off = (t : Int)) (hn : n = pc + 3) (kt : EvO E M d cv t lo st h A) (kn : EvO E M d cv n lo st h B) : EvO E M d cv pc lo (eI a :: st) h (eEq a 0 A B) := by
  subst hn
  unfold eEq
  split
  · rename_i he
    subst he
    exact ev_lift (fun hS _ w => lv_if_eq hS.1 hS.2.1 hd ht (fun _ => w) (fun q => absurd rfl q)) kt
  · rename_i he
    split
    · rename_i hok
      exact ev_lift (fun hS _ w => lv_if_eq hS.1 hS.2.1 hd ht (fun q => absurd (eI_inj hok.1 hok.2 q) he) (fun _ => w)) kn
    · exact ev_no
theorem ev_if_ne (t n : Nat) {a : Int} {off : Int} {A B : Option α} (hd : decode (mB M) pc = .ok (.ifCond .ne off, 3)) (ht : (pc : Int) + off = (t : Int)) (hn : n = pc + 3) (kt : EvO E M d cv t lo st h A) (kn : EvO E M d cv n lo st h B) : EvO E M d cv pc lo (eI a :: st) h (eEq a 0 B A) := by
  subst hn
  unfold eEq
  split
  · rename_i he
    subst he
    exact ev_lift (fun hS _ w => lv_if_ne hS.1 hS.2.1 hd ht (fun q => absurd rfl q) (fun _ => w)) kn
  · rename_i he
    split
    · rename_i hok
      exact ev_lift (fun hS _ w => lv_if_ne hS.1 hS.2.1 hd ht (fun _ => w) (fun q => absurd (eI_inj hok.1 hok.2 q) he)) kt
    · exact ev_no
theorem ev_if_lt (t n : Nat) {a : Int} {off : Int} {A B : Option α} (hd : decode (mB M) pc = .ok (.ifCond .lt off, 3)) (ht : (pc : Int) + off = (t : Int)) (hn : n = pc + 3) (kt : EvO E M d cv t lo st h A) (kn : EvO E M d cv n lo st h B) : EvO E M d cv pc lo (eI a :: st) h (eLt a 0 A B) := by
  subst hn
  unfold eLt
  split
  · rename_i hok
    have hiff := eI_lt hok.1 hok.2
    split
    · rename_i he
      exact ev_lift (fun hS _ w => lv_if_lt hS.1 hS.2.1 hd ht (fun _ => w) (fun q => absurd (hiff.mpr he) q)) kt
    · rename_i he
      exact ev_lift (fun hS _ w => lv_if_lt hS.1 hS.2.1 hd ht (fun q => absurd (hiff.mp q) he) (fun _ => w)) kn
  · exact ev_no
theorem ev_if_ge (t n : Nat) {a : Int} {off : Int} {A B : Option α} (hd : decode (mB M) pc = .ok (.ifCond .ge off, 3)) (ht : (pc : Int) + off = (t : Int)) (hn : n = pc + 3) (kt : EvO E M d cv t lo st h A) (kn : EvO E M d cv n lo st h B) : EvO E M d cv pc lo (eI a :: st) h (eLt a 0 B A) := by
  subst hn
  unfold eLt
  split
  · rename_i hok
    have hiff := eI_le hok.2 hok.1
    split
    · rename_i he
      exact ev_lift (fun hS _ w => lv_if_ge hS.1 hS.2.1 hd ht (fun q => absurd (hiff.mp q) (by omega)) (fun _ => w)) kn
    · rename_i he
      exact ev_lift (fun hS _ w => lv_if_ge hS.1 hS.2.1 hd ht (fun _ => w) (fun q => absurd (hiff.mpr (by omega)) q)) kt
  · exact ev_no
theorem ev_if_gt (t n : Nat) {a : Int} {off : Int} {A B : Option α} (hd : decode (mB M) pc = .ok (.ifCond .gt off, 3)) (ht : (pc : Int) + off = (t : Int)) (hn : n = pc + 3) (kt : EvO E M d cv t lo st h A) (kn : EvO E M d cv n lo st h B) : EvO E M d cv pc lo (eI a :: st) h (eLt 0 a A B) := by
  subst hn
  unfold eLt
  split
  · rename_i hok
    have hiff := eI_lt hok.1 hok.2
    split
    · rename_i he
      exact ev_lift (fun hS _ w => lv_if_gt hS.1 hS.2.1 hd ht (fun _ => w) (fun q => absurd (hiff.mpr he) q)) kt
    · rename_i he
      exact ev_lift (fun hS _ w => lv_if_gt hS.1 hS.2.1 hd ht (fun q => absurd (hiff.mp q) he) (fun _ => w)) kn
  · exact ev_no
theorem ev_if_le (t n : Nat) {a : Int} {off : Int} {A B : Option α} (hd : decode (mB M) pc = .ok (.ifCond .le off, 3)) (ht : (pc : Int) + off = (t : Int)) (hn : n = pc + 3) (kt : EvO E M d cv t lo st h A) (kn : EvO E M d cv n lo st h B) : EvO E M d cv pc lo (eI a :: st) h (eLt 0 a B A) := by
  subst hn
  unfold eLt
  split
  · rename_i hok
    have hiff := eI_le hok.2 hok.1
    split
    · rename_i he
      exact ev_lift (fun hS _ w => lv_if_le hS.1 hS.2.1 hd ht (fun q => absurd (hiff.mp q) (by omega)) (fun _ => w)) kn
    · rename_i he
      exact ev_lift (fun hS _ w => lv_if_le hS.1 hS.2.1 hd ht (fun _ => w) (fun q => absurd (hiff.mpr (by omega)) q)) kt
  · exact ev_no
theorem ev_icmp_eq (t n : Nat) {a b : Int} {off : Int} {A B : Option α} (hd : decode (mB M) pc = .ok (.if_icmp .eq off, 3)) (ht : (pc : Int) + off = (t : Int)) (hn : n = pc + 3) (kt : EvO E M d cv t lo st h A) (kn : EvO E M d cv n lo st h B) : EvO E M d cv pc lo (eI b :: eI a :: st) h (eEq a b A B) := by
  subst hn
  unfold eEq
  split
  · rename_i he
    subst he
    exact ev_lift (fun hS _ w => lv_icmp_eq hS.1 hS.2.1 hd ht (fun _ => w) (fun q => absurd rfl q)) kt
  · rename_i he
    split
    · rename_i hok
      exact ev_lift (fun hS _ w => lv_icmp_eq hS.1 hS.2.1 hd ht (fun q => absurd (eI_inj hok.1 hok.2 q) he) (fun _ => w)) kn
    · exact ev_no
theorem ev_icmp_ne (t n : Nat) {a b : Int} {off : Int} {A B : Option α} (hd : decode (mB M) pc = .ok (.if_icmp .ne off, 3)) (ht : (pc : Int) + off = (t : Int)) (hn : n = pc + 3) (kt : EvO E M d cv t lo st h A) (kn : EvO E M d cv n lo st h B) : EvO E M d cv pc lo (eI b :: eI a :: st) h (eEq a b B A) := by
  subst hn
  unfold eEq
  split
  · rename_i he
    subst he
    exact ev_lift (fun hS _ w => lv_icmp_ne hS.1 hS.2.1 hd ht (fun q => absurd rfl q) (fun _ => w)) kn
  · rename_i he
    split
    · rename_i hok
      exact ev_lift (fun hS _ w => lv_icmp_ne hS.1 hS.2.1 hd ht (fun _ => w) (fun q => absurd (eI_inj hok.1 hok.2 q) he)) kt
    · exact ev_no
theorem ev_icmp_lt (t n : Nat) {a b : Int} {off : Int} {A B : Option α} (hd : decode (mB M) pc = .ok (.if_icmp .lt off, 3)) (ht : (pc : Int) + off = (t : Int)) (hn : n = pc + 3) (kt : EvO E M d cv t lo st h A) (kn : EvO E M d cv n lo st h B) : EvO E M d cv pc lo (eI b :: eI a :: st) h (eLt a b A B) := by
  subst hn
  unfold eLt
  split
  · rename_i hok
    have hiff := eI_lt hok.1 hok.2
    split
    · rename_i he
      exact ev_lift (fun hS _ w => lv_icmp_lt hS.1 hS.2.1 hd ht (fun _ => w) (fun q => absurd (hiff.mpr he) q)) kt
    · rename_i he
      exact ev_lift (fun hS _ w => lv_icmp_lt hS.1 hS.2.1 hd ht (fun q => absurd (hiff.mp q) he) (fun _ => w)) kn
  · exact ev_no
theorem ev_icmp_ge (t n : Nat) {a b : Int} {off : Int} {A B : Option α} (hd : decode (mB M) pc = .ok (.if_icmp .ge off, 3)) (ht : (pc : Int) + off = (t : Int)) (hn : n = pc + 3) (kt : EvO E M d cv t lo st h A) (kn : EvO E M d cv n lo st h B) : EvO E M d cv pc lo (eI b :: eI a :: st) h (eLt a b B A) := by
  subst hn
  unfold eLt
  split
  · rename_i hok
    have hiff := eI_le hok.2 hok.1
    split
    · rename_i he
      exact ev_lift (fun hS _ w => lv_icmp_ge hS.1 hS.2.1 hd ht (fun q => absurd (hiff.mp q) (by omega)) (fun _ => w)) kn
    · rename_i he
      exact ev_lift (fun hS _ w => lv_icmp_ge hS.1 hS.2.1 hd ht (fun _ => w) (fun q => absurd (hiff.mpr (by omega)) q)) kt
  · exact ev_no
theorem ev_icmp_gt (t n : Nat) {a b : Int} {off : Int} {A B : Option α} (hd : decode (mB M) pc = .ok (.if_icmp .gt off, 3)) (ht : (pc : Int) + off = (t : Int)) (hn : n = pc + 3) (kt : EvO E M d cv t lo st h A) (kn : EvO E M d cv n lo st h B) : EvO E M d cv pc lo (eI b :: eI a :: st) h (eLt b a A B) := by
  subst hn
  unfold eLt
  split
  · rename_i hok
    have hiff := eI_lt hok.1 hok.2
    split
    · rename_i he
      exact ev_lift (fun hS _ w => lv_icmp_gt hS.1 hS.2.1 hd ht (fun _ => w) (fun q => absurd (hiff.mpr he) q)) kt
    · rename_i he
      exact ev_lift (fun hS _ w => lv_icmp_gt hS.1 hS.2.1 hd ht (fun q => absurd (hiff.mp q) he) (fun _ => w)) kn
  · exact ev_no
theorem ev_icmp_le (t n : Nat) {a b : Int} {off : Int} {A B : Option α} (hd : decode (mB M) pc = .ok (.if_icmp .le off, 3)) (ht : (pc : Int) + off = (t : Int)) (hn : n = pc + 3) (kt : EvO E M d cv t lo st h A) (kn : EvO E M d cv n lo st h B) : EvO E M d cv pc lo (eI b :: eI a :: st) h (eLt b a B A) := by
  subst hn
  unfold eLt
  split
  · rename_i hok
    have hiff := eI_le hok.2 hok.1
    split
    · rename_i he
      exact ev_lift (fun hS _ w => lv_icmp_le hS.1 hS.2.1 hd ht (fun q => absurd (hiff.mp q) (by omega)) (fun _ => w)) kn
    · rename_i he
      exact ev_lift (fun hS _ w => lv_icmp_le hS.1 hS.2.1 hd ht (fun _ => w) (fun q => absurd (hiff.mpr (by omega)) q)) kt
  · exact ev_no
theorem ev_ifnull (t n : Nat) {q : Option Nat} {off : Int} {A B : Option α} (hd : decode (mB M) pc = .ok (.ifnull off, 3)) (ht : (pc : Int) + off = (t : Int)) (hn : n = pc + 3) (kt : EvO E M d cv t lo st h A) (kn : EvO E M d cv n lo st h B) : EvO E M d cv pc lo (va_rf q :: st) h (eNu q A B) := by
  subst hn
  cases q with
  | none => exact ev_lift (fun hS _ w => lv_ifnullN hS.1 hS.2.1 hd ht w) kt
  | some a => exact ev_lift (fun hS _ w => lv_ifnull hS.1 hS.2.1 hd w) kn
theorem ev_ifnonnull (t n : Nat) {q : Option Nat} {off : Int} {A B : Option α} (hd : decode (mB M) pc = .ok (.ifnonnull off, 3)) (ht : (pc : Int) + off = (t : Int)) (hn : n = pc + 3) (kt : EvO E M d cv t lo st h A) (kn : EvO E M d cv n lo st h B) : EvO E M d cv pc lo (va_rf q :: st) h (eNu q B A) := by
  subst hn
  cases q with
  | none => exact ev_lift (fun hS _ w => lv_ifnonnullN hS.1 hS.2.1 hd w) kn
  | some a => exact ev_lift (fun hS _ w => lv_ifnonnull hS.1 hS.2.1 hd ht w) kt
theorem ev_acmp_eq (t n : Nat) {q r : Option Nat} {off : Int} {A B : Option α} (hd : decode (mB M) pc = .ok (.if_acmp .eq off, 3)) (ht : (pc : Int) + off = (t : Int)) (hn : n = pc + 3) (kt : EvO E M d cv t lo st h A) (kn : EvO E M d cv n lo st h B) : EvO E M d cv pc lo (va_rf r :: va_rf q :: st) h (eAe q r A B) := by
  subst hn
  unfold eAe
  split
  · rename_i he
    exact ev_lift (fun hS _ w => lv_acmp_eq hS.1 hS.2.1 hd ht (fun _ => w) (fun x => absurd he x)) kt
  · rename_i he
    exact ev_lift (fun hS _ w => lv_acmp_eq hS.1 hS.2.1 hd ht (fun x => absurd x he) (fun _ => w)) kn
theorem ev_acmp_ne (t n : Nat) {q r : Option Nat} {off : Int} {A B : Option α} (hd : decode (mB M) pc = .ok (.if_acmp .ne off, 3)) (ht : (pc : Int) + off = (t : Int)) (hn : n = pc + 3) (kt : EvO E M d cv t lo st h A) (kn : EvO E M d cv n lo st h B) : EvO E M d cv pc lo (va_rf r :: va_rf q :: st) h (eAe q r B A) := by
  subst hn
  unfold eAe
  split
  · rename_i he
    exact ev_lift (fun hS _ w => lv_acmp_ne hS.1 hS.2.1 hd ht (fun x => absurd he x) (fun _ => w)) kn
  · rename_i he
    exact ev_lift (fun hS _ w => lv_acmp_ne hS.1 hS.2.1 hd ht (fun _ => w) (fun x => absurd x he)) kt
-- a switch: peel the cases, then go
theorem ev_peel {z v : Int} {A B : Option α} (ka : z = v → EvO E M d cv pc lo (eI z :: st) h A) (kb : z ≠ v → eOk z = true → EvO E M d cv pc lo (eI z :: st) h B) : EvO E M d cv pc lo (eI z :: st) h (eEq z v A B) := by
  unfold eEq
  split
  · rename_i he
    exact ka he
  · rename_i he
    split
    · rename_i hok
      exact kb he hok.1
    · exact ev_no
theorem ev_tsIn (t : Nat) {z v dflt lw hi off : Int} {offs : Array Int} {len : Nat} (hd : decode (mB M) pc = .ok (.tableswitch dflt lw hi offs, len)) (hz : z = v) (hv : eOk v = true) (h1 : ¬ v < lw) (h2 : ¬ hi < v) (ho : offs[(v - lw).toNat]? = some off) (ht : (pc : Int) + off = (t : Int)) (k : EvO E M d cv t lo st h o) : EvO E M d cv pc lo (eI z :: st) h o := by
  subst hz
  exact ev_lift (fun hS _ w => lv_tableIn hS.1 hS.2.1 hd (by rw [eI_toInt hv]; exact h1) (by rw [eI_toInt hv]; exact h2) (by rw [eI_toInt hv]; exact ho) ht w) k
theorem ev_tsOut (t : Nat) {z dflt lw hi : Int} {offs : Array Int} {len : Nat} (hd : decode (mB M) pc = .ok (.tableswitch dflt lw hi offs, len)) (hok : eOk z = true) (hz : z < lw ∨ hi < z) (ht : (pc : Int) + dflt = (t : Int)) (k : EvO E M d cv t lo st h o) : EvO E M d cv pc lo (eI z :: st) h o :=
  ev_lift (fun hS _ w => lv_tableOut hS.1 hS.2.1 hd (by rw [eI_toInt hok]; exact hz) ht w) k
theorem ev_lsGo (t : Nat) {z dflt off : Int} {ps : Array (Int × Int)} {len : Nat} (hd : decode (mB M) pc = .ok (.lookupswitch dflt ps, len)) (hp : (ps.toList.zip (ps.toList.drop 1)).all (fun (a, next) => a.1 < next.1) = true) (hok : eOk z = true) (ho : Op.lookupswitch.offset ps.toList dflt z = off) (ht : (pc : Int) + off = (t : Int)) (k : EvO E M d cv t lo st h o) : EvO E M d cv pc lo (eI z :: st) h o :=
  ev_lift (fun hS _ w => lv_lookup hS.1 hS.2.1 hd hp (by rw [eI_toInt hok]; exact ho) ht w) k
theorem ev_end {x : Option Value × ev_hs} (hx : x.2 = h) (hv : ev_V M pc x.1 st) : Ev E M d pc lo st h x := by
  subst hx
  refine ⟨Nat.le_refl _, Nat.le_refl _, fun p e R s m args below meth c Z mc ms hS hT H locs cells slots ls hH hl hL hc hs => ?_⟩
  exact W.widen (k := mc) (n := ms) (by omega) (by omega) (hT H locs pc ls st hH hl hv)
theorem ev_ireturn {z : Int} (hd : decode (mB M) pc = .ok (.ireturn, 1)) (hr : mR M = some .int) : EvO E M d cvI pc lo [eI z] h (some (z, h)) := by
  intro x hx
  cases hx
  exact ev_end rfl (Or.inl ⟨hd, Int32.ofInt z, .int, rfl, rfl, hr, rfl⟩)
def eBo (z : Int) (h : ev_hs) : Option (Int × ev_hs) := if z = 0 ∨ z = 1 then some (z, h) else none
theorem ev_zreturn {z : Int} (hd : decode (mB M) pc = .ok (.ireturn, 1)) (hr : mR M = some .boolean) : EvO E M d cvI pc lo [eI z] h (eBo z h) := by
  intro x hx
  unfold eBo at hx
  split at hx
  · rename_i hz
    cases hx
    refine ev_end rfl (Or.inl ⟨hd, Int32.ofInt z, .boolean, rfl, rfl, hr, ?_⟩)
    rcases hz with rfl | rfl <;> decide
  · cases hx
theorem ev_areturn {q : Option Nat} {rt : FieldType} (hd : decode (mB M) pc = .ok (.areturn, 1)) (hr : mR M = some rt) (hrt : (∃ n, rt = .object n) ∨ ∃ t, rt = .array t) : EvO E M d cvR pc lo [va_rf q] h (some (q, h)) := by
  intro x hx
  cases hx
  exact ev_end rfl (Or.inr (Or.inl ⟨hd, q, rt, rfl, rfl, hr, hrt⟩))
theorem ev_return (hd : decode (mB M) pc = .ok (.return_, 1)) (hr : mR M = none) : EvO E M d cvV pc lo [] h (some h) := by
  intro x hx
  cases hx
  exact ev_end rfl (Or.inr (Or.inr ⟨hd, rfl, rfl, hr⟩))
end Rules2
end
section
section Mem
variable {p : Program} {l : Launch} {e : Env} {R : Room} {s : State} {m : MethodId} {args : Array Value} {below : List Frame} {meth : Method} {c : Code} {H : Heap} {locs : List Loc} {cells slots : Nat} {Z : State → Prop}
variable {cc : ByteArray} {pc : Nat} {ls : Array Slot} {rest : List Value} {D : va_G} {a : Nat}
theorem va_P1 {cl : List vw_C} {q : Nat × va_E} (hat : va_at D cl q H) : va_P D cl [q] H := by
  intro k x hx
  cases k with
  | zero => simp at hx; subst hx; exact hat
  | succ k => simp at hx
-- a class of ours: its table, its words, the types of its fields
def ev_CK (ci : Nat) (C : String) (T : u_T) (N : Nat) : Prop :=
  evC[ci]? = some (C, T, N) ∧ (∀ w ∈ u_ws C T N, w ∈ evW) ∧
  (∃ ty0 : Nat → FieldType, ∀ k, k < N → parseFieldDescriptor (T k).2.2.1 = some (ty0 k) ∧ (evF ci k = 0 → ty0 k = .int) ∧ (evF ci k = 1 → ty0 k = .boolean) ∧ (evF ci k = 2 → (∃ n, ty0 k = .object n) ∨ ∃ t, ty0 k = .array t) ∧ evF ci k ≤ 2) ∧
  ∀ a, a < N → ∀ b, b < N → a ≠ b → (T a).2.1 ≠ (T b).2.1
theorem evC_lt {ci : Nat} {q : vw_C} (h : evC[ci]? = some q) : ci < 49 := by
  have := (List.getElem?_eq_some_iff.mp h).1
  have e : evC.length = 12 := rfl
  omega
theorem evN_eq {ci N : Nat} {C : String} {T : u_T} (h : evC[ci]? = some (C, T, N)) : evN ci = N := by
  unfold evN
  rw [h]
  rfl
theorem ev_fs_get {h : ev_hs} {ci a k N : Nat} {C : String} {T : u_T} (hc : evC[ci]? = some (C, T, N)) (hk : k < N) : (ev_fs h ci a)[k]? = some (ev_fv h ci a k) := by
  unfold ev_fs
  rw [evN_eq hc, List.getElem?_map, List.getElem?_range hk]
  rfl
theorem ev_fs_len {h : ev_hs} {ci a N : Nat} {C : String} {T : u_T} (hc : evC[ci]? = some (C, T, N)) : (ev_fs h ci a).length = N := by
  unfold ev_fs
  rw [evN_eq hc, List.length_map, List.length_range]
theorem ev_put0 (hexec : p.tables.exec = Jvm.exec) (hb : c.code = cc) {own ref C : String} {T : u_T} {N ci index : Nat} (hts : ∀ w ∈ evW, w.before args s = true) (hin : ∀ w ∈ u_ws C T N, w ∈ evW) (ty0 : Nat → FieldType) (hty : ∀ k, k < N → parseFieldDescriptor (T k).2.2.1 = some (ty0 k)) (hnm : ∀ a, a < N → ∀ b, b < N → a ≠ b → (T a).2.1 ≠ (T b).2.1) (hown : s.vm.findClass own = some m.cls) (hK : va_K D evC [] s)
    {fs : List Value} (hat : va_at D evC (a, .inr (ci, fs)) H) (hc : evC[ci]? = some (C, T, N)) (k : Nat) (hk : k < N) (hlink : (Cond.fieldLink own index ref (T k).2.1 (T k).2.2.1).before args s = true) (hsame : ∀ x, s.fieldFound? (T k).1 (T k).2.1 (T k).2.2.1 = some x → s.fieldFound? ref (T k).2.1 (T k).2.2.1 = some x)
    (hfin : (T k).2.2.2 = false ∨ ((T k).2.2.2 = true ∧ meth.name = "<init>" ∧ (T k).1 = own)) {v : Value} (hn : narrow (ty0 k) v = v) (hfit : fits (ty0 k) v = true) (hl : k < fs.length) (hdg : decode cc pc = .ok (.putfield index, 3))
    (kk : ∀ (H1 : Heap) (j : Nat), va_at D evC (a, .inr (ci, fs.set k v)) H1 → H1.size = H.size → (∀ q, q ≠ a → H1[q]? = H[q]?) → W p l e R s m args below meth c H1 (locs ++ [⟨a, j⟩]) cells slots Z (F0 m (pc + 3) ls rest)) :
    W p l e R s m args below meth c H locs cells slots Z (F0 m pc ls (v :: .ref a :: rest)) := by
  have hd := hty k hk
  have hap := va_apart (own := own) hts hin ty0 hty hnm hK hc
  obtain ⟨r, h1, cell, q1, q2, q3, q4⟩ := hat
  have hr : r = (C, T, N) := Option.some.inj (h1.symm.trans hc)
  subst hr
  obtain ⟨hS, hfc, kC, hkC, hkind⟩ := hK.1 ci _ hc
  obtain ⟨cf, kf, fi, f, hi, hsl⟩ := hS k hk
  have hlay := hts _ (hin _ (u_in_lay hk))
  unfold u_lay at hlay
  have hst := (u_facts hfc hkC (u_lays hts hin hk) hi).1
  rcases hfin with hfin | ⟨hfin, hin2, hdecl⟩
  · rw [if_neg (by rw [hfin]; decide)] at hlay
    have h6 := u_store hfc hkC hkind hlay hi hd hn hfit
    refine W.putK hexec hb (f := f) ⟨hown, hlink, ⟨_, _, _, hsame _ hi⟩, hst⟩ (by rw [q2]; exact h6) q1 q3 (by rw [hsl]; exact k2_hasslot (q4 k hk)) rfl rfl hdg fun H' e1 e2 e3 => ?_
    rw [hsl] at e1 ⊢
    exact kk H' _ ⟨_, hc, t_OB.to (V := updV (vp_V fs) k v) ⟨_, e1, q2, q3, t_set q4 hap hk v⟩ (fun j _ => vp_updV_set hl v j)⟩ e2 e3
  · rw [if_pos hfin] at hlay
    have hcf : m.cls = cf := by
      obtain ⟨_, _, c', _, _, _, -, -, hf', -, -, -, hown2, -⟩ := Cond.laysFinal_spec hlay
      have e1 : c' = cf := by have := hi.symm.trans hf'; simp at this; exact this.1.symm
      rw [hdecl] at hown2
      rw [← e1]; exact Option.some.inj (hown.symm.trans hown2)
    have h6 := u_fits hfc hkC hkind (Or.inr hlay) hi hd hn hfit
    refine W.putFinK hexec hb hown hlink (hsame _ hi) hst hcf hin2 (by rw [q2]; exact h6) q1 q3 (by rw [hsl]; exact k2_hasslot (q4 k hk)) rfl rfl hdg fun H' e1 e2 e3 => ?_
    rw [hsl] at e1 ⊢
    exact kk H' _ ⟨_, hc, t_OB.to (V := updV (vp_V fs) k v) ⟨_, e1, q2, q3, t_set q4 hap hk v⟩ (fun j _ => vp_updV_set hl v j)⟩ e2 e3
end Mem
section Heap1
variable {E : ev_E} {h h' : ev_hs} {H H1 : Heap} {a : Nat}
theorem ev_at_kept {b : Nat} (h1 : ev_at E h H b) (hk : xK h' b = xK h b) (hl : xL h' b = xL h b) (hi : ∀ f, xI h' f b = xI h f b) (hr : ∀ f, xR h' f b = xR h f b) (ha : xA h' b = xA h b) (hq : xQ h' b = xQ h b) (ho : H1[b]? = H[b]?) : ev_at E h' H1 b := by
  obtain ⟨x1, x2, x3, x4⟩ := h1
  have hfs : ∀ c, ev_fs h' c b = ev_fs h c b := fun c => by
    unfold ev_fs
    exact congrArg (fun f => List.map f _) (funext fun k => by simp only [ev_fv, hi, hr])
  unfold ev_at
  rw [hk, hl, ha, hq, ho]
  refine ⟨fun c hc h49 => ?_, x2, x3, x4⟩
  rw [hfs]
  exact (x1 c hc h49).kept ho
-- one cell of ours is written
theorem ev_H_put (hH : ev_H E h H) (hk : xK h' = xK h) (hl : xL h' = xL h) (hz : xZ h' = xZ h) (he : xE h' = xE h) (hm : xM h' = xM h) (h0 : e0 E ≤ a) (hz1 : H1.size = H.size) (ho : ∀ q, q ≠ a → H1[q]? = H[q]?)
    (hi : ∀ b, b ≠ a → (∀ f, xI h' f b = xI h f b) ∧ (∀ f, xR h' f b = xR h f b) ∧ xA h' b = xA h b ∧ xQ h' b = xQ h b) (hat : xK h a ≠ 0 → ev_at E h' H1 a) : ev_H E h' H1 := by
  obtain ⟨x1, x2, x3, x4, x5, x6, x7⟩ := hH
  refine ⟨by rw [hz1, hz]; exact x1, by rw [hz]; exact x2, by rw [he]; exact x3, by rw [hm]; exact x4, x5, fun q hq => ?_, fun b hb => ?_⟩
  · rw [ho q (by omega)]
    exact x6 q hq
  · rw [hk] at hb ⊢
    rw [hl, hz]
    obtain ⟨y1, y2, y3, y4⟩ := x7 b hb
    refine ⟨y1, y2, y3, ?_⟩
    by_cases hba : b = a
    · subst hba
      exact hat hb
    · obtain ⟨i1, i2, i3, i4⟩ := hi b hba
      exact ev_at_kept y4 (by rw [hk]) (by rw [hl]) i1 i2 i3 i4 (ho b hba)
-- a cell is made
theorem ev_H_new {t : Nat} (hH : ev_H E h H) (ht : t ≠ 0) (hk : xK h' = va_up (xK h) (xZ h) t) (hz : xZ h' = xZ h + 1) (he : xE h' = xE h) (hm : xM h' = xM h) (hz1 : H1.size = H.size + 1) (ho : ∀ q, q < H.size → H1[q]? = H[q]?)
    (hi : ∀ b, b ≠ xZ h → xL h' b = xL h b ∧ (∀ f, xI h' f b = xI h f b) ∧ (∀ f, xR h' f b = xR h f b) ∧ xA h' b = xA h b ∧ xQ h' b = xQ h b) (hln : xL h' (xZ h) < 2147483648) (hat : ev_at E h' H1 (xZ h)) : ev_H E h' H1 := by
  obtain ⟨x1, x2, x3, x4, x5, x6, x7⟩ := hH
  refine ⟨by rw [hz1, hz, x1], by rw [hz]; omega, by rw [he]; exact x3, by rw [hm]; exact x4, x5, fun q hq => ?_, fun b hb => ?_⟩
  · rw [ho q (by omega)]
    exact x6 q hq
  · by_cases hba : b = xZ h
    · subst hba
      exact ⟨by omega, hln, Or.inl x2, hat⟩
    · rw [hk] at hb ⊢
      have e : va_up (xK h) (xZ h) t b = xK h b := by simp [va_up, hba]
      rw [e] at hb ⊢
      obtain ⟨y1, y2, y3, y4⟩ := x7 b hb
      obtain ⟨i0, i1, i2, i3, i4⟩ := hi b hba
      rw [i0]
      exact ⟨by omega, y2, y3, ev_at_kept y4 (by rw [hk, e]) i0 i1 i2 i3 i4 (ho b (by omega))⟩
theorem ev_obj (hH : ev_H E h H) {c : Nat} (hk : xK h a = c + 1) (hc : c < 49) : e0 E ≤ a ∧ va_at (eD E) evC (a, .inr (c, ev_fs h c a)) H := by
  obtain ⟨x1, x2, x3, x4, x5, x6, x7⟩ := hH
  obtain ⟨y1, y2, y3, y4⟩ := x7 a (by omega)
  exact ⟨by omega, y4.1 c hk hc⟩
theorem ev_arrI (hH : ev_H E h H) {t : Nat} (hk : xK h a = t) (h1 : 50 ≤ t) (h2 : t ≤ 51) : e0 E ≤ a ∧ xL h a < 2147483648 ∧ H[a]? = some (vp_cell (eA E t) (xL h a, .inl (fun j => Int32.ofInt (xA h a j)))) := by
  obtain ⟨x1, x2, x3, x4, x5, x6, x7⟩ := hH
  obtain ⟨y1, y2, y3, y4⟩ := x7 a (by omega)
  subst hk
  exact ⟨by omega, y2, y4.2.1 h1 h2⟩
theorem ev_arrQ (hH : ev_H E h H) {t : Nat} (hk : xK h a = t) (h1 : 52 ≤ t) (h2 : t ≤ 57) (hl : 0 < xL h a) : e0 E ≤ a ∧ xL h a < 2147483648 ∧ H[a]? = some (vp_cell (eA E t) (xL h a, .inr (.inr (.inr (.inr (xQ h a)))))) := by
  obtain ⟨x1, x2, x3, x4, x5, x6, x7⟩ := hH
  obtain ⟨y1, y2, y3, y4⟩ := x7 a (by omega)
  subst hk
  refine ⟨by omega, y2, ?_⟩
  rcases y4.2.2.1 h1 h2 with q | q
  · exact q
  · omega
theorem ev_arrQ0 (hH : ev_H E h H) {t : Nat} (hk : xK h a = t) (h1 : 52 ≤ t) (h2 : t ≤ 57) : H[a]? = some (vp_cell (eA E t) (xL h a, .inr (.inr (.inr (.inr (xQ h a)))))) ∨ (t = 52 ∧ xL h a = 0 ∧ H[a]? = some (eEc E)) := by
  obtain ⟨x1, x2, x3, x4, x5, x6, x7⟩ := hH
  obtain ⟨y1, y2, y3, y4⟩ := x7 a (by omega)
  subst hk
  exact y4.2.2.1 h1 h2
theorem ev_arrS (hH : ev_H E h H) (hk : xK h a = 58) : xL h a < 2147483648 ∧ H[a]? = some (eSc E) ∧ (eSc E).slots.size = xL h a ∧ ∀ j, j < xL h a → (eSc E).slots[j]? = some (eI (xA h a j)) := by
  obtain ⟨x1, x2, x3, x4, x5, x6, x7⟩ := hH
  obtain ⟨y1, y2, y3, y4⟩ := x7 a (by omega)
  exact ⟨y2, y4.2.2.2 hk⟩
theorem ev_fs_setI {c k : Nat} {z : Int} (hB : evB c k = false) : ev_fs (wI h (100 * c + k) a z) c a = (ev_fs h c a).set k (eI z) := by
  apply List.ext_getElem?
  intro j
  unfold ev_fs
  rw [List.getElem?_set, List.getElem?_map, List.getElem?_map]
  by_cases hj : j < evN c
  · rw [List.getElem?_range hj]
    by_cases hjk : k = j
    · subst hjk
      simp [hj, ev_fv, hB, wI, xI, up2]
    · have : ¬ (100 * c + j = 100 * c + k) := by omega
      simp [hjk, Ne.symm hjk, ev_fv, wI, xI, xR, up2, this]
  · have e : (List.range (evN c))[j]? = none := by simp; omega
    rw [e]
    by_cases hjk : k = j
    · subst hjk
      simp; omega
    · simp [hjk]
theorem ev_fs_setR {c k : Nat} {z : Option Nat} (hB : evB c k = true) : ev_fs (wR h (100 * c + k) a z) c a = (ev_fs h c a).set k (va_rf z) := by
  apply List.ext_getElem?
  intro j
  unfold ev_fs
  rw [List.getElem?_set, List.getElem?_map, List.getElem?_map]
  by_cases hj : j < evN c
  · rw [List.getElem?_range hj]
    by_cases hjk : k = j
    · subst hjk
      simp [hj, ev_fv, hB, wR, xR, up2]
    · have : ¬ (100 * c + j = 100 * c + k) := by omega
      simp [hjk, Ne.symm hjk, ev_fv, wR, xI, xR, up2, this]
  · have e : (List.range (evN c))[j]? = none := by simp; omega
    rw [e]
    by_cases hjk : k = j
    · subst hjk
      simp; omega
    · simp [hjk]
end Heap1
-- a link to the field k of class c; nm: the name of the method that writes it
def ev_FL (own : String) (ix ci k : Nat) : Prop := ∃ (C : String) (T : u_T) (N : Nat) (ref : String), ev_CK ci C T N ∧ k < N ∧ Cond.fieldLink own ix ref (T k).2.1 (T k).2.2.1 ∈ evW ∧ (ref = (T k).1 ∨ Cond.sameField ref (T k).1 (T k).2.1 (T k).2.2.1 ∈ evW)
def ev_FW (own nm : String) (ix ci k : Nat) : Prop := ∃ (C : String) (T : u_T) (N : Nat) (ref : String), ev_CK ci C T N ∧ k < N ∧ Cond.fieldLink own ix ref (T k).2.1 (T k).2.2.1 ∈ evW ∧ (ref = (T k).1 ∨ Cond.sameField ref (T k).1 (T k).2.1 (T k).2.2.1 ∈ evW) ∧ ((T k).2.2.2 = false ∨ ((T k).2.2.2 = true ∧ nm = "<init>" ∧ (T k).1 = own))
theorem ev_same {args : Array Value} {s : State} {ref dc nm ds : String} (hts : ∀ w ∈ evW, w.before args s = true) (hs : ref = dc ∨ Cond.sameField ref dc nm ds ∈ evW) : ∀ x, s.fieldFound? dc nm ds = some x → s.fieldFound? ref nm ds = some x := by
  intro x hx
  rcases hs with rfl | hs
  · exact hx
  · exact u_same (hts _ hs) x hx
section Rules3
variable {α : Type} {E : ev_E} {M : ev_M} {d : Nat} {cv : α → Option Value × ev_hs} {pc : Nat} {lo : List (Option Value)} {st : List Value} {h : ev_hs} {o : Option α}
theorem ev_gI (n : Nat) {c k ix : Nat} {q : Option Nat} {K : Int → Option α} (hd : decode (mB M) pc = .ok (.getfield ix, 3)) (hf : ev_FL (mY M).cls ix c k) (hB : evB c k = false) (hn : n = pc + 3) (k1 : ∀ z, EvO E M d cv n lo (eI z :: st) h (K z)) : EvO E M d cv pc lo (va_rf q :: st) h (gI h c k q K) := by
  subst hn
  unfold gI
  cases q with
  | none => exact ev_no
  | some a =>
    dsimp only
    split
    · rename_i hk
      refine ev_liftH (fun hS hL hH hlo w => ?_) (k1 _)
      obtain ⟨C, T, N, ref, ⟨hc, hin, -, -⟩, hkN, hlink, hsame⟩ := hf
      have hts := hS.2.2.2.2.2.1
      refine va_get hS.1 hS.2.1 hts hin hS.2.2.2.1 hS.2.2.2.2.2.2.1.1 (va_P1 (ev_obj hH hk (evC_lt hc)).2) 0 rfl hc k hkN (hts _ hlink) (ev_same hts hsame) (ev_fs_get hc hkN) hd ?_
      unfold ev_fv
      rw [if_neg (by rw [hB]; decide)]
      exact w
    · exact ev_no
theorem ev_gR (n : Nat) {c k ix : Nat} {q : Option Nat} {K : Option Nat → Option α} (hd : decode (mB M) pc = .ok (.getfield ix, 3)) (hf : ev_FL (mY M).cls ix c k) (hB : evB c k = true) (hn : n = pc + 3) (k1 : ∀ z, EvO E M d cv n lo (va_rf z :: st) h (K z)) : EvO E M d cv pc lo (va_rf q :: st) h (gR h c k q K) := by
  subst hn
  unfold gR
  cases q with
  | none => exact ev_no
  | some a =>
    dsimp only
    split
    · rename_i hk
      refine ev_liftH (fun hS hL hH hlo w => ?_) (k1 _)
      obtain ⟨C, T, N, ref, ⟨hc, hin, -, -⟩, hkN, hlink, hsame⟩ := hf
      have hts := hS.2.2.2.2.2.1
      refine va_get hS.1 hS.2.1 hts hin hS.2.2.2.1 hS.2.2.2.2.2.2.1.1 (va_P1 (ev_obj hH hk (evC_lt hc)).2) 0 rfl hc k hkN (hts _ hlink) (ev_same hts hsame) (ev_fs_get hc hkN) hd ?_
      unfold ev_fv
      rw [if_pos hB]
      exact w
    · exact ev_no
theorem ev_putO {h' : ev_hs} {c k ix a : Nat} {v : Value} (hd : decode (mB M) pc = .ok (.putfield ix, 3)) (hf : ev_FW (mY M).cls (mY M).name ix c k) (hk : xK h a = c + 1)
    (hty : ∀ (ty : FieldType), (evF c k = 0 → ty = .int) → (evF c k = 1 → ty = .boolean) → (evF c k = 2 → (∃ n, ty = .object n) ∨ ∃ t, ty = .array t) → narrow ty v = v ∧ fits ty v = true)
    (e1 : xK h' = xK h) (e2 : xL h' = xL h) (e3 : xZ h' = xZ h) (e4 : xE h' = xE h) (e5 : xM h' = xM h) (e6 : xC h' = xC h) (e7 : xS h' = xS h)
    (hi : ∀ b, b ≠ a → (∀ f, xI h' f b = xI h f b) ∧ (∀ f, xR h' f b = xR h f b) ∧ xA h' b = xA h b ∧ xQ h' b = xQ h b) (hfs : ev_fs h' c a = (ev_fs h c a).set k v)
    (k1 : EvO E M d cv (pc + 3) lo st h' o) : EvO E M d cv pc lo (v :: .ref a :: st) h o := by
  refine ev_liftW (c1 := 0) (s1 := 0) (by omega) (by omega) (fun hS hL hH hlo hc1 hs1 w => ?_) k1
  obtain ⟨C, T, N, ref, ⟨hc, hin, ⟨ty0, hty0⟩, hnm⟩, hkN, hlink, hsame, hfin⟩ := hf
  have hts := hS.2.2.2.2.2.1
  obtain ⟨h0, hat⟩ := ev_obj hH hk (evC_lt hc)
  obtain ⟨g1, g2⟩ := hty (ty0 k) (hty0 k hkN).2.1 (hty0 k hkN).2.2.1 (hty0 k hkN).2.2.2.1
  refine ev_put0 hS.1 hS.2.1 hts hin ty0 (fun j hj => (hty0 j hj).1) hnm hS.2.2.2.1 hS.2.2.2.2.2.2.1.1 hat hc k hkN (hts _ hlink) (ev_same hts hsame) ?_ g1 g2 (by rw [ev_fs_len hc]; exact hkN) hd (fun H1 j hat1 hz1 ho => ?_)
  · rw [hS.2.2.2.2.1]
    exact hfin
  · refine w H1 _ (ev_H_put hH e1 e2 e3 e4 e5 h0 hz1 ho hi (fun _ => ⟨fun c9 hc9 _ => ?_, fun u1 u2 => ?_, fun u1 u2 => ?_, fun u1 => ?_⟩)) (t_lL hlo (by simp; exact h0))
    · rw [e1, hk] at hc9
      have : c9 = c := by omega
      subst this
      rw [hfs]
      exact hat1
    · exfalso
      have := evC_lt hc
      rw [e1, hk] at u1
      omega
    · exfalso
      have := evC_lt hc
      rw [e1, hk] at u1
      omega
    · exfalso
      have := evC_lt hc
      rw [e1, hk] at u1
      omega
theorem ev_pI (n : Nat) {c k ix : Nat} {q : Option Nat} {z : Int} {K : ev_hs → Option α} (hd : decode (mB M) pc = .ok (.putfield ix, 3)) (hf : ev_FW (mY M).cls (mY M).name ix c k) (hB : evF c k = 0) (hn : n = pc + 3) (k1 : ∀ g, EvO E M d cv n lo st g (K g)) : EvO E M d cv pc lo (eI z :: va_rf q :: st) h (pI h c k q z K) := by
  subst hn
  unfold pI
  cases q with
  | none => exact ev_no
  | some a =>
    dsimp only
    split
    · rename_i hk
      refine ev_putO (h' := wI h (100 * c + k) a z) hd hf hk (fun ty h0 h1 h2 => by rw [h0 hB]; exact ⟨rfl, rfl⟩) rfl rfl rfl rfl rfl rfl rfl (fun b hb => ⟨fun f => ?_, fun f => rfl, rfl, rfl⟩) (ev_fs_setI (by simp [evB, hB])) (k1 _)
      simp [wI, xI, up2, hb]
    · exact ev_no
theorem ev_pZ (n : Nat) {c k ix : Nat} {q : Option Nat} {z : Int} {K : ev_hs → Option α} (hd : decode (mB M) pc = .ok (.putfield ix, 3)) (hf : ev_FW (mY M).cls (mY M).name ix c k) (hB : evF c k = 1) (hn : n = pc + 3) (k1 : ∀ g, EvO E M d cv n lo st g (K g)) : EvO E M d cv pc lo (eI z :: va_rf q :: st) h (pZ h c k q z K) := by
  subst hn
  unfold pZ
  cases q with
  | none => exact ev_no
  | some a =>
    dsimp only
    split
    · rename_i hk
      refine ev_putO (h' := wI h (100 * c + k) a z) hd hf hk.1 (fun ty h0 h1 h2 => by rw [h1 hB]; rcases hk.2 with rfl | rfl <;> decide) rfl rfl rfl rfl rfl rfl rfl (fun b hb => ⟨fun f => ?_, fun f => rfl, rfl, rfl⟩) (ev_fs_setI (by simp [evB, hB])) (k1 _)
      simp [wI, xI, up2, hb]
    · exact ev_no
theorem ev_pR (n : Nat) {c k ix : Nat} {q v : Option Nat} {K : ev_hs → Option α} (hd : decode (mB M) pc = .ok (.putfield ix, 3)) (hf : ev_FW (mY M).cls (mY M).name ix c k) (hB : evF c k = 2) (hn : n = pc + 3) (k1 : ∀ g, EvO E M d cv n lo st g (K g)) : EvO E M d cv pc lo (va_rf v :: va_rf q :: st) h (pR h c k q v K) := by
  subst hn
  unfold pR
  cases q with
  | none => exact ev_no
  | some a =>
    dsimp only
    split
    · rename_i hk
      refine ev_putO (h' := wR h (100 * c + k) a v) hd hf hk (fun ty h0 h1 h2 => by rcases h2 hB with ⟨nm, rfl⟩ | ⟨t, rfl⟩ <;> cases v <;> exact ⟨rfl, rfl⟩) rfl rfl rfl rfl rfl rfl rfl (fun b hb => ⟨fun f => rfl, fun f => ?_, rfl, rfl⟩) (ev_fs_setR (by simp [evB, hB])) (k1 _)
      simp [wR, xR, up2, hb]
    · exact ev_no
end Rules3
theorem ev_K1 {E : ev_E} {s : State} (hK : ev_K E s) {t : Nat} (h1 : 50 ≤ t) (h2 : t ≤ 57) : va_K (eD E) evC [(eA E t, evTy t)] s := by
  refine ⟨hK.1.1, fun k q hq => ?_⟩
  cases k with
  | zero => simp at hq; subst hq; exact hK.2.1 t h1 h2
  | succ k => simp at hq
theorem ev_cellI (cA : ClassId) (n j : Nat) (f : Nat → Int32) (x : Int32) : (vp_cell cA (n, .inl f)).setSlot j (.int x) = vp_cell cA (n, .inl (fun i => if i = j then x else f i)) := by
  rw [vp_cell_i, vp_cell_i, arrV_store]
  congr 1
  funext q
  by_cases hq : q = j <;> simp [updV, hq]
theorem ev_cellQ (cA : ClassId) (n j : Nat) (f : Nat → Option Nat) (x : Option Nat) : (vp_cell cA (n, .inr (.inr (.inr (.inr f))))).setSlot j (va_rf x) = vp_cell cA (n, .inr (.inr (.inr (.inr (fun i => if i = j then x else f i))))) := by
  rw [vp_cell_q, vp_cell_q, arrV_store]
  congr 1
  funext q
  by_cases hq : q = j <;> simp [updV, hq]
theorem ev_hAw {h : ev_hs} {a j : Nat} {z : Int} : xA (wA h a j z) a = fun i => if i = j then z else xA h a i := by
  funext i
  simp [wA, xA, up2]
theorem ev_hQw {h : ev_hs} {a j : Nat} {z : Option Nat} : xQ (wQ h a j z) a = fun i => if i = j then z else xQ h a i := by
  funext i
  simp [wQ, xQ, up2]
def ev_AO (t ec : Nat) : Prop := ∃ (C0 C : String) (T : u_T) (N : Nat), evTy t = .object C0 ∧ evC[ec]? = some (C, T, N) ∧ ∀ (E : ev_E) (s : State), ev_K E s → ∀ comp c0 : ClassId, s.vm.findClass C0 = some comp → s.vm.findClass C = some c0 → s.vm.assignable c0 comp = true
section Rules4
variable {α : Type} {E : ev_E} {M : ev_M} {d : Nat} {cv : α → Option Value × ev_hs} {pc : Nat} {lo : List (Option Value)} {st : List Value} {h : ev_hs} {o : Option α}
theorem ev_iaload (n : Nat) {q : Option Nat} {i : Int} {K : Int → Option α} (hd : decode (mB M) pc = .ok (.iaload, 1)) (hn : n = pc + 1) (k1 : ∀ z, EvO E M d cv n lo (eI z :: st) h (K z)) : EvO E M d cv pc lo (eI i :: va_rf q :: st) h (lI h 50 q i K) := by
  subst hn
  unfold lI
  cases q with
  | none => exact ev_no
  | some a =>
    dsimp only
    split
    · rename_i hk
      obtain ⟨hk, h0, h1⟩ := hk
      refine ev_liftH (fun hS hL hH hlo w => ?_) (k1 _)
      obtain ⟨g0, g1, g2⟩ := ev_arrI hH hk (by omega) (by omega)
      refine va_iald hS.1 hS.2.1 (ev_K1 hS.2.2.2.2.2.2.1 (t := 50) (by omega) (by omega)) (va_P1 (q := (a, .inl (eA E 50, xL h a, .inl _))) g2) 0 0 rfl rfl (eI_in h0 h1 g1) hd ?_
      rw [eI_cl h0 (by omega)]
      exact w
    · exact ev_no
theorem ev_baload (n : Nat) {q : Option Nat} {i : Int} {K : Int → Option α} (hd : decode (mB M) pc = .ok (.baload, 1)) (hn : n = pc + 1) (k1 : ∀ z, EvO E M d cv n lo (eI z :: st) h (K z)) : EvO E M d cv pc lo (eI i :: va_rf q :: st) h (lI h 51 q i K) := by
  subst hn
  unfold lI
  cases q with
  | none => exact ev_no
  | some a =>
    dsimp only
    split
    · rename_i hk
      obtain ⟨hk, h0, h1⟩ := hk
      refine ev_liftH (fun hS hL hH hlo w => ?_) (k1 _)
      obtain ⟨g0, g1, g2⟩ := ev_arrI hH hk (by omega) (by omega)
      refine va_zald hS.1 hS.2.1 (ev_K1 hS.2.2.2.2.2.2.1 (t := 51) (by omega) (by omega)) (va_P1 (q := (a, .inl (eA E 51, xL h a, .inl _))) g2) 0 0 rfl rfl (eI_in h0 h1 g1) hd ?_
      rw [eI_cl h0 (by omega)]
      exact w
    · exact ev_no
theorem ev_saload (n : Nat) {q : Option Nat} {i : Int} {K : Int → Option α} (hd : decode (mB M) pc = .ok (.iaload, 1)) (hn : n = pc + 1) (k1 : ∀ z, EvO E M d cv n lo (eI z :: st) h (K z)) : EvO E M d cv pc lo (eI i :: va_rf q :: st) h (lI h 58 q i K) := by
  subst hn
  unfold lI
  cases q with
  | none => exact ev_no
  | some a =>
    dsimp only
    split
    · rename_i hk
      obtain ⟨hk, h0, h1⟩ := hk
      refine ev_liftH (fun hS hL hH hlo w => ?_) (k1 _)
      obtain ⟨g1, g2, g3, g4⟩ := ev_arrS hH hk
      have hin := eI_in h0 h1 g1
      refine W.iald hS.1 hS.2.1 g2 hS.2.2.2.2.2.2.1.2.2.1 hS.2.2.2.2.2.2.1.2.2.2.1 (by rw [g3]; exact hin) (v := eI (xA h a i.toNat)) ?_ rfl rfl hd w
      rw [eI_cl h0 (by omega)]
      exact g4 _ (by omega)
    · exact ev_no
theorem ev_aaload (n : Nat) {t : Nat} {q : Option Nat} {i : Int} {K : Option Nat → Option α} (hd : decode (mB M) pc = .ok (.aaload, 1)) (ht : 52 ≤ t ∧ t ≤ 57) (hty : ∃ C, evTy t = .object C) (hn : n = pc + 1) (k1 : ∀ z, EvO E M d cv n lo (va_rf z :: st) h (K z)) : EvO E M d cv pc lo (eI i :: va_rf q :: st) h (lQ h t q i K) := by
  subst hn
  unfold lQ
  cases q with
  | none => exact ev_no
  | some a =>
    dsimp only
    split
    · rename_i hk
      obtain ⟨hk, h0, h1⟩ := hk
      refine ev_liftH (fun hS hL hH hlo w => ?_) (k1 _)
      obtain ⟨g0, g1, g2⟩ := ev_arrQ hH hk ht.1 ht.2 (by omega)
      obtain ⟨C, hC⟩ := hty
      refine va_aldq (C := C) hS.1 hS.2.1 (ev_K1 hS.2.2.2.2.2.2.1 (t := t) (by omega) ht.2) (va_P1 (q := (a, .inl (eA E t, xL h a, .inr (.inr (.inr (.inr _)))))) g2) 0 0 rfl (by rw [hC]; rfl) (eI_in h0 h1 g1) hd ?_
      rw [eI_cl h0 (by omega)]
      exact w
    · exact ev_no
theorem ev_alen (n : Nat) {t : Nat} {q : Option Nat} {K : Int → Option α} (hd : decode (mB M) pc = .ok (.arraylength, 1)) (ht : 50 ≤ t ∧ t ≤ 57) (hn : n = pc + 1) (k1 : ∀ z, EvO E M d cv n lo (eI z :: st) h (K z)) : EvO E M d cv pc lo (va_rf q :: st) h (aL h t q K) := by
  subst hn
  unfold aL
  cases q with
  | none => exact ev_no
  | some a =>
    dsimp only
    split
    · rename_i hk
      refine ev_liftH (fun hS hL hH hlo w => ?_) (k1 _)
      by_cases h51 : t ≤ 51
      · obtain ⟨g0, g1, g2⟩ := ev_arrI hH hk ht.1 h51
        exact va_alen hS.1 hS.2.1 (ev_K1 hS.2.2.2.2.2.2.1 (t := t) ht.1 ht.2) (va_P1 (q := (a, .inl (eA E t, xL h a, .inl _))) g2) 0 0 rfl rfl (eI_nat _).symm hd w
      · rcases ev_arrQ0 hH hk (by omega) ht.2 with g2 | ⟨g0, g1, g2⟩
        case inr =>
          have hEc := hS.2.2.2.2.2.2.1.2.2.2.2.2.1
          exact W.alen hS.1 hS.2.1 g2 hEc.1 (by rw [hEc.2, g1]; rfl) rfl rfl hd w
        exact va_alen hS.1 hS.2.1 (ev_K1 hS.2.2.2.2.2.2.1 (t := t) ht.1 ht.2) (va_P1 (q := (a, .inl (eA E t, xL h a, .inr (.inr (.inr (.inr _)))))) g2) 0 0 rfl rfl (eI_nat _).symm hd w
    · exact ev_no
theorem ev_slen (n : Nat) {q : Option Nat} {K : Int → Option α} (hd : decode (mB M) pc = .ok (.arraylength, 1)) (hn : n = pc + 1) (k1 : ∀ z, EvO E M d cv n lo (eI z :: st) h (K z)) : EvO E M d cv pc lo (va_rf q :: st) h (aL h 58 q K) := by
  subst hn
  unfold aL
  cases q with
  | none => exact ev_no
  | some a =>
    dsimp only
    split
    · rename_i hk
      refine ev_liftH (fun hS hL hH hlo w => ?_) (k1 _)
      obtain ⟨g1, g2, g3, g4⟩ := ev_arrS hH hk
      exact W.alen hS.1 hS.2.1 g2 hS.2.2.2.2.2.2.1.2.2.1 (by rw [g3]; exact (eI_nat _).symm) rfl rfl hd w
    · exact ev_no
theorem ev_sI0 {t a : Nat} {i : Int} {z : Int} {H : Heap} {H1 : Heap} (hH : ev_H E h H) (hk : xK h a = t) (h1 : 50 ≤ t) (h2 : t ≤ 51) (h0 : 0 ≤ i) (hi : i < (xL h a : Int))
    (e1 : H1[a]? = some ((vp_cell (eA E t) (xL h a, .inl (fun j => Int32.ofInt (xA h a j)))).setSlot (Int32.ofInt i).toNatClampNeg (.int (Int32.ofInt z)))) (e2 : H1.size = H.size) (e3 : ∀ q, q ≠ a → H1[q]? = H[q]?) : ev_H E (wA h a i.toNat z) H1 := by
  obtain ⟨g0, g1, g2⟩ := ev_arrI hH hk h1 h2
  rw [eI_cl h0 (by omega), ev_cellI] at e1
  refine ev_H_put hH rfl rfl rfl rfl rfl g0 e2 e3 (fun b hb => ⟨fun f => rfl, fun f => rfl, ?_, rfl⟩) (fun _ => ⟨fun c9 hc9 h49 => ?_, fun u1 u2 => ?_, fun u1 u2 => ?_, fun u1 => ?_⟩)
  · funext j
    simp [wA, xA, up2, hb]
  · have e : xK (wA h a i.toNat z) a = xK h a := rfl
    rw [e, hk] at hc9
    omega
  · have e : xK (wA h a i.toNat z) a = t := hk
    rw [e, e1, ev_hAw]
    congr 3
    congr 1
    funext j
    by_cases hj : j = i.toNat <;> simp [hj]
  · have e : xK (wA h a i.toNat z) a = t := hk
    rw [e] at u1
    omega
  · have e : xK (wA h a i.toNat z) a = t := hk
    rw [e] at u1
    omega
theorem ev_iastore (n : Nat) {q : Option Nat} {i z : Int} {K : ev_hs → Option α} (hd : decode (mB M) pc = .ok (.iastore, 1)) (hn : n = pc + 1) (k1 : ∀ g, EvO E M d cv n lo st g (K g)) : EvO E M d cv pc lo (eI z :: eI i :: va_rf q :: st) h (sI h 50 q i z K) := by
  subst hn
  unfold sI
  cases q with
  | none => exact ev_no
  | some a =>
    dsimp only
    split
    · rename_i hk
      obtain ⟨hk, h0, h1⟩ := hk
      refine ev_liftW (h' := wA h a i.toNat z) (c1 := 0) (s1 := 0) rfl rfl (fun hS hL hH hlo hc1 hs1 w => ?_) (k1 _)
      obtain ⟨g0, g1, g2⟩ := ev_arrI hH hk (by omega) (by omega)
      have hin := eI_in h0 h1 g1
      refine W.iast hS.1 hS.2.1 g2 ((hS.2.2.2.2.2.2.1.2.1 50 (by omega) (by omega)).1 (xL h a) (fun j => .int (Int32.ofInt (xA h a j)))) (fun q => by cases q) (by show ¬ (_ < 0 ∨ (arrV _ _ _).slots.size ≤ _); rw [arrV_size]; exact hin) rfl rfl hd fun H1 e1 e2 e3 => ?_
      exact w H1 _ (ev_sI0 hH hk (by omega) (by omega) h0 h1 e1 e2 e3) (t_lL hlo (by simp; exact g0))
    · exact ev_no
theorem ev_bastore (n : Nat) {q : Option Nat} {i z : Int} {K : ev_hs → Option α} (hd : decode (mB M) pc = .ok (.bastore, 1)) (hn : n = pc + 1) (k1 : ∀ g, EvO E M d cv n lo st g (K g)) : EvO E M d cv pc lo (eI z :: eI i :: va_rf q :: st) h (sZ h 51 q i z K) := by
  subst hn
  unfold sZ
  cases q with
  | none => exact ev_no
  | some a =>
    dsimp only
    split
    · rename_i hk
      obtain ⟨hk, h0, h1, hz⟩ := hk
      refine ev_liftW (h' := wA h a i.toNat z) (c1 := 0) (s1 := 0) rfl rfl (fun hS hL hH hlo hc1 hs1 w => ?_) (k1 _)
      obtain ⟨g0, g1, g2⟩ := ev_arrI hH hk (by omega) (by omega)
      have hin := eI_in h0 h1 g1
      refine W.zast hS.1 hS.2.1 g2 ((hS.2.2.2.2.2.2.1.2.1 51 (by omega) (by omega)).1 (xL h a) (fun j => .int (Int32.ofInt (xA h a j)))) (fun q => by cases q) (by show ¬ (_ < 0 ∨ (arrV _ _ _).slots.size ≤ _); rw [arrV_size]; exact hin) rfl rfl hd fun H1 e1 e2 e3 => ?_
      have hnz : narrow .boolean (.int (Int32.ofInt z)) = .int (Int32.ofInt z) := by rcases hz with rfl | rfl <;> decide
      rw [hnz] at e1
      exact w H1 _ (ev_sI0 hH hk (by omega) (by omega) h0 h1 e1 e2 e3) (t_lL hlo (by simp; exact g0))
    · exact ev_no
theorem ev_sQ0 {t a : Nat} {i : Int} {v : Option Nat} {H : Heap} {H1 : Heap} (hH : ev_H E h H) (hk : xK h a = t) (h1 : 52 ≤ t) (h2 : t ≤ 57) (h0 : 0 ≤ i) (hi : i < (xL h a : Int))
    (e1 : H1[a]? = some ((vp_cell (eA E t) (xL h a, .inr (.inr (.inr (.inr (xQ h a)))))).setSlot (Int32.ofInt i).toNatClampNeg (va_rf v))) (e2 : H1.size = H.size) (e3 : ∀ q, q ≠ a → H1[q]? = H[q]?) : ev_H E (wQ h a i.toNat v) H1 ∧ e0 E ≤ a := by
  obtain ⟨g0, g1, g2⟩ := ev_arrQ hH hk h1 h2 (by omega)
  rw [eI_cl h0 (by omega), ev_cellQ] at e1
  refine ⟨ev_H_put hH rfl rfl rfl rfl rfl g0 e2 e3 (fun b hb => ⟨fun f => rfl, fun f => rfl, rfl, ?_⟩) (fun _ => ⟨fun c9 hc9 h49 => ?_, fun u1 u2 => ?_, fun u1 u2 => ?_, fun u1 => ?_⟩), g0⟩
  · funext j
    simp [wQ, xQ, up2, hb]
  · have e : xK (wQ h a i.toNat v) a = t := hk
    rw [e] at hc9
    omega
  · have e : xK (wQ h a i.toNat v) a = t := hk
    rw [e] at u2
    omega
  · have e : xK (wQ h a i.toNat v) a = t := hk
    rw [e, e1, ev_hQw]
    exact Or.inl rfl
  · have e : xK (wQ h a i.toNat v) a = t := hk
    rw [e] at u1
    omega
-- rows of class e's objects: kind t; ev_AO says that an object of class e may stand there
theorem ev_aastore (n : Nat) {t ec : Nat} {q v : Option Nat} {i : Int} {K : ev_hs → Option α} (hd : decode (mB M) pc = .ok (.aastore, 1)) (ht : 52 ≤ t ∧ t ≤ 57) (ho : ev_AO t ec) (hn : n = pc + 1) (k1 : ∀ g, EvO E M d cv n lo st g (K g)) : EvO E M d cv pc lo (va_rf v :: eI i :: va_rf q :: st) h (sQ h t ec q i v K) := by
  subst hn
  unfold sQ
  cases q with
  | none => exact ev_no
  | some a =>
    dsimp only
    split
    · rename_i hk
      obtain ⟨hk, h0, h1, hv⟩ := hk
      obtain ⟨C0, C, T, N, hty, hc, hasg⟩ := ho
      refine ev_liftW (h' := wQ h a i.toNat v) (c1 := 0) (s1 := 0) rfl rfl (fun hS hL hH hlo hc1 hs1 w => ?_) (k1 _)
      obtain ⟨g0, g1, g2⟩ := ev_arrQ hH hk ht.1 ht.2 (by omega)
      have hin := eI_in h0 h1 g1
      have hKK := hS.2.2.2.2.2.2.1
      have hAT := hKK.2.1 t (by omega) ht.2
      rw [hty] at hAT
      cases v with
      | none =>
        refine va_WaastN (C := C0) hS.1 hS.2.1 g2 (hAT.1 (xL h a) (fun j => va_rf (xQ h a j))) (fun q => by cases q) (by show ¬ (_ < 0 ∨ (arrV _ _ _).slots.size ≤ _); rw [arrV_size]; exact hin) rfl rfl hd fun H1 e1 e2 e3 => ?_
        obtain ⟨w1, w2⟩ := ev_sQ0 (v := none) hH hk ht.1 ht.2 h0 h1 e1 e2 e3
        exact w H1 _ w1 (t_lL hlo (by simp; exact w2))
      | some x =>
        have hx : xK h x = ec + 1 := by simpa [okQ] using hv
        obtain ⟨b0, r, hr, cell, c1, c2, c3, -⟩ := ev_obj hH hx (evC_lt hc)
        obtain ⟨kA, comp, k1, k2, k3, -⟩ := hAT.2
        obtain ⟨hfc, kC, hkC, -⟩ := (hKK.1.1 ec _ hc).2
        obtain ⟨kE, hkE, -⟩ := Vm.findClass_spec k3
        refine W.aast hS.1 hS.2.1 g2 (fun q h => by cases h) (fun h => by cases h) k1 k2 rfl hkE ⟨fun q => hin (Or.inl q), ?_⟩ c1 (fun q h => by rw [c3] at h; cases h) (by rw [c2]; exact hkC) (by rw [c2]; exact hasg _ _ hKK _ _ k3 hfc) rfl rfl hd fun H1 e1 e2 e3 => ?_
        · show _ < (arrV _ _ _).slots.size
          rw [arrV_size]
          exact Nat.not_le.mp fun q => hin (Or.inr q)
        · obtain ⟨w1, w2⟩ := ev_sQ0 (v := some x) hH hk ht.1 ht.2 h0 h1 e1 e2 e3
          exact w H1 _ w1 (t_lL hlo (by simp; exact w2))
    · exact ev_no
-- new objects and arrays
theorem ev_new (n : Nat) {ci N ix : Nat} {C : String} {T : u_T} {K : Option Nat → ev_hs → Option α} (hd : decode (mB M) pc = .ok (.new ix, 3)) (hck : ev_CK ci C T N) (hl : Cond.classLink (mY M).cls ix C ∈ evW) (hi : Cond.instantiable C N ∈ evW) (hini : Cond.initialized C ∈ evW) (hn : n = pc + 3) (k1 : ∀ z g, EvO E M d cv n lo (va_rf z :: st) g (K z g)) : EvO E M d cv pc lo st h (nO h ci N K) := by
  subst hn
  unfold nO
  refine ev_liftW (c1 := 1) (s1 := N) rfl rfl (fun hS hL hH hlo hc1 hs1 w => ?_) (k1 _ _)
  obtain ⟨hc, hin, ⟨ty0, hty0⟩, -⟩ := hck
  have hts := hS.2.2.2.2.2.1
  have hKn := hS.2.2.2.2.2.2.1.1.1 ci _ hc
  have hRo := hS.2.2.2.2.2.2.2
  have hx1 := hH.1
  refine W.newcK hS.1 hS.2.1 hS.2.2.2.1 (hts _ hl) (hts _ hi) (hts _ hini) rfl hd (by have := hRo.2.2.1; omega) (by have := hRo.2.2.2; omega) hKn.2.1 hx1 fun H1 kC hkC e1 z1 o1 => ?_
  refine w H1 _ (ev_H_new (t := ci + 1) hH (by omega) rfl rfl rfl rfl (by rw [z1, hx1]) (fun q hq => o1 q (by omega)) (fun b hb => ⟨by simp [wN, xL, va_up, hb], fun f => ?_, fun f => ?_, rfl, rfl⟩) (by simp [wN, xL, va_up]) ⟨fun c9 hc9 h49 => ?_, fun u1 u2 => ?_, fun u1 u2 => ?_, fun u1 => ?_⟩) hlo
  · simp [wN, xI, hb]
  · simp [wN, xR, hb]
  all_goals have e : xK (wN h ci N) (xZ h) = ci + 1 := (by simp [wN, xK, va_up])
  · rw [e] at hc9
    have : c9 = ci := by omega
    subst this
    refine ⟨_, hc, (u_born ty0 hts hin hKn hkC e1 (fun k hk => (hty0 k hk).1)).to (fun j hj => ?_)⟩
    have hg : (ev_fs (wN h c9 N) c9 (xZ h))[j]? = some (ev_fv (wN h c9 N) c9 (xZ h) j) := ev_fs_get hc hj
    simp only [vp_V, List.getD_eq_getElem?_getD, hg, Option.getD_some]
    obtain ⟨-, q0, q1, q2, h3⟩ := hty0 j hj
    unfold ev_fv evB
    by_cases hb : evF c9 j = 2
    · simp only [hb]
      simp only [wN, xR]
      rcases q2 hb with ⟨nm, e2⟩ | ⟨t, e2⟩ <;> rw [e2] <;> simp [defaultValue, va_rf]
    · have : (evF c9 j == 2) = false := by simp [hb]
      rw [this]
      simp only [wN, xI]
      by_cases hb0 : evF c9 j = 0
      · rw [q0 hb0]
        simp [defaultValue]
      · rw [q1 (by omega)]
        simp [defaultValue]
  all_goals (rw [e] at u1; have := evC_lt hc; omega)
end Rules4
section Rules5
variable {α : Type} {E : ev_E} {M : ev_M} {d : Nat} {cv : α → Option Value × ev_hs} {pc : Nat} {lo : List (Option Value)} {st : List Value} {h : ev_hs} {o : Option α}
theorem ev_nA0 {t N : Nat} {H H1 : Heap} (hH : ev_H E h H) (h1 : 50 ≤ t) (h2 : t ≤ 57) (hN : N < 2147483648) (e1 : t ≤ 51 → H1[xZ h]? = some (vp_cell (eA E t) (N, .inl (fun _ => 0)))) (e1' : 52 ≤ t → H1[xZ h]? = some (vp_cell (eA E t) (N, .inr (.inr (.inr (.inr (fun _ => none))))))) (z1 : H1.size = H.size + 1) (o1 : ∀ q, q < H.size → H1[q]? = H[q]?) : ev_H E (wY h t N) H1 := by
  have e : xK (wY h t N) (xZ h) = t := by simp [wY, xK, va_up]
  have el : xL (wY h t N) (xZ h) = N := by simp [wY, xL, va_up]
  have ea : xA (wY h t N) (xZ h) = fun _ => 0 := by simp [wY, xA, va_up]
  have eq : xQ (wY h t N) (xZ h) = fun _ => none := by simp [wY, xQ, va_up]
  refine ev_H_new (t := t) hH (by omega) rfl rfl rfl rfl z1 o1 (fun b hb => ⟨by simp [wY, xL, va_up, hb], fun f => rfl, fun f => rfl, by simp [wY, xA, va_up, hb], by simp [wY, xQ, va_up, hb]⟩) (by rw [el]; exact hN) ⟨fun c9 hc9 h49 => ?_, fun u1 u2 => ?_, fun u1 u2 => ?_, fun u1 => ?_⟩
  · rw [e] at hc9
    omega
  · rw [e, el, ea]
    rw [e] at u2
    exact e1 u2
  · rw [e, el, eq]
    rw [e] at u1
    exact Or.inl (e1' u1)
  · rw [e] at u1
    omega
theorem ev_newarray (n : Nat) {t : Nat} {ty : ArrayType} {z : Int} {K : Option Nat → ev_hs → Option α} (hd : decode (mB M) pc = .ok (.newarray ty, 2)) (ht : 50 ≤ t ∧ t ≤ 51) (hty : newarray.typeOf ty = evTy t) (hw : Cond.arrayClass (newarray.typeOf ty) ∈ evW) (hdv : defaultValue (newarray.typeOf ty) = .int 0) (hcb : componentBytes (newarray.typeOf ty) ≤ 4) (hra : ∀ (U : State) (cA : ClassId), va_RA U cA (evTy t) → U.vm.findClass ("[" ++ (newarray.typeOf ty).toString) = some cA) (hn : n = pc + 2) (k1 : ∀ z g, EvO E M d cv n lo (va_rf z :: st) g (K z g)) : EvO E M d cv pc lo (eI z :: st) h (nA h t z K) := by
  subst hn
  unfold nA
  split
  · rename_i hz
    obtain ⟨z0, z1⟩ := hz
    refine ev_liftW (c1 := 1) (s1 := z.toNat) rfl rfl (fun hS hL hH hlo hc1 hs1 w => ?_) (k1 _ _)
    have hts := hS.2.2.2.2.2.1
    have hRo := hS.2.2.2.2.2.2.2
    have hx1 := hH.1
    have hAT := hS.2.2.2.2.2.2.1.2.1 t (by omega) (by omega)
    refine va_newaK hS.1 hS.2.1 (hts _ hw) rfl hd rfl (eI_nneg z0 (by omega)) (N := z.toNat) (eI_cl z0 (by omega)) (Nat.le_trans (Nat.mul_le_mul_left _ hcb) (by omega)) (by have := hRo.2.2.1; omega) (by have := hRo.2.2.2; omega) hx1 fun H1 cA e1 z1 o1 hAr hNm => ?_
    have hcA : cA = eA E t := Option.some.inj (hNm.symm.trans (hra _ _ hAT.2))
    subst hcA
    refine w H1 _ (ev_nA0 hH ht.1 (by omega) (by omega) (fun _ => ?_) (fun q => by omega) (by rw [z1, hx1]) (fun q hq => o1 q (by omega))) hlo
    rw [e1, vp_cell_i, hdv]
  · exact ev_no
theorem ev_anewarray (n : Nat) {t ix : Nat} {C : String} {z : Int} {K : Option Nat → ev_hs → Option α} (hd : decode (mB M) pc = .ok (.anewarray ix, 3)) (ht : 52 ≤ t ∧ t ≤ 57) (hty : evTy t = .object C) (hl : Cond.classLink (mY M).cls ix C ∈ evW) (hov : ∀ U, ev_X U → va_AO C U) (hn : n = pc + 3) (k1 : ∀ z g, EvO E M d cv n lo (va_rf z :: st) g (K z g)) : EvO E M d cv pc lo (eI z :: st) h (nA h t z K) := by
  subst hn
  unfold nA
  split
  · rename_i hz
    obtain ⟨z0, z1⟩ := hz
    refine ev_liftW (c1 := 1) (s1 := z.toNat) rfl rfl (fun hS hL hH hlo hc1 hs1 w => ?_) (k1 _ _)
    have hts := hS.2.2.2.2.2.1
    have hRo := hS.2.2.2.2.2.2.2
    have hKK := hS.2.2.2.2.2.2.1
    have hx1 := hH.1
    have hAT := hKK.2.1 t (by omega) (by omega)
    rw [hty] at hAT
    have hcl : (Int32.ofInt z).toNatClampNeg = z.toNat := eI_cl z0 (by omega)
    refine W.anew hS.1 hS.2.1 hS.2.2.2.1 (hts _ hl) (va_AO.use (hov _ hKK.2.2.2.2.1)) rfl hd rfl (eI_nneg z0 (by omega)) (by rw [hcl]; omega) (by have := hRo.2.2.1; omega) (by rw [hcl]; have := hRo.2.2.2; omega) fun cA kA comp f1 f2 f3 f4 => ?_
    obtain ⟨-, -, -, -, -, hnm⟩ := hAT.2
    have hcA : cA = eA E t := Option.some.inj (f1.symm.trans hnm)
    subst hcA
    rw [hcl, hx1]
    refine w _ _ (ev_nA0 hH (by omega) ht.2 (by omega) (fun q => by omega) (fun _ => ?_) (by simp) (fun q hq => by rw [Array.getElem?_push, if_neg (Nat.ne_of_lt hq)])) hlo
    rw [← hx1, Array.getElem?_push_size, vp_cell_q]
    exact congrArg some (arrV_new _ _ _)
  · exact ev_no
theorem ev_objInit (n : Nat) {ix : Nat} {q : Option Nat} {j : Nat} (hd : decode (mB M) pc = .ok (.invokespecial ix, 3)) (hl : Cond.methodLink (mY M).cls ix Lib.objectInit ∈ evW) (hi : Cond.instanceMethod Lib.objectInit ∈ evW) (hc : Cond.code Lib.objectInit ⟨#[0xb1]⟩ 1 none ∈ evW) (hd1 : 1 ≤ d) (hsm : ev_sm st j) (hj : j ≤ 8) (hn : n = pc + 3) (k1 : EvO E M d cv n lo st h o) : EvO E M d cv pc lo (va_rf q :: st) h (nN q o) := by
  subst hn
  unfold nN
  cases q with
  | none => exact ev_no
  | some a =>
    refine ev_lift (fun hS hL w => ?_) k1
    have hts := hS.2.2.2.2.2.1
    have hRo := hS.2.2.2.2.2.2.2
    refine W.objInit hS.1 hS.2.1 hS.2.2.2.1 (hts _ hl) (hts _ hi) (hts _ hc) rfl (by rw [hS.2.2.1]; exact hL.1) rfl hd (by have := hRo.1; omega) ?_ w
    have h1 := hRo.2.1
    have h2 : (st.map fun v => v.category).sum ≤ 8 := Nat.le_trans hsm hj
    show 2 * 0 + _ + 12 ≤ _
    omega
theorem ev_getstatic (n : Nat) {ix : Nat} (hd : decode (mB M) pc = .ok (.getstatic ix, 3)) (hl : Cond.fieldLink (mY M).cls ix "java/util/ArrayList" "DEFAULTCAPACITY_EMPTY_ELEMENTDATA" "[Ljava/lang/Object;" ∈ evW) (hn : n = pc + 3) (k1 : EvO E M d cv n lo (va_rf (some (xE h)) :: st) h o) : EvO E M d cv pc lo st h o := by
  subst hn
  refine ev_liftH (fun hS hL hH hlo w => ?_) k1
  obtain ⟨x1, x2, x3, x4, x5, x6, x7⟩ := hH
  rw [x3] at w
  obtain ⟨cf, kf, fi, f, a, cell, h1, h2, h3, h4, h5, h6, h7, h8⟩ := hS.2.2.2.2.2.2.1.2.2.2.2.2.2.2.2
  refine W.gets hS.1 hS.2.1 hS.2.2.2.1 (hS.2.2.2.2.2.1 _ hl) h1 h2 h3 h4 (by rw [x6 a (by omega)]; exact h5) (fun e => by rw [e] at h6; cases h6) h7 rfl hd w
theorem ev_checkcastO (n : Nat) {ix ci N : Nat} {C : String} {T : u_T} {q : Option Nat} (hd : decode (mB M) pc = .ok (.checkcast ix, 3)) (hc : evC[ci]? = some (C, T, N)) (hl : Cond.classLink (mY M).cls ix C ∈ evW) (hn : n = pc + 3) (k1 : EvO E M d cv n lo (va_rf q :: st) h o) : EvO E M d cv pc lo (va_rf q :: st) h (eCc h ci q o) := by
  subst hn
  unfold eCc
  cases q with
  | none => exact ev_lift (fun hS _ w => lv_castN hS.1 hS.2.1 hd w) k1
  | some a =>
    dsimp only
    split
    · rename_i hk
      refine ev_liftH (fun hS hL hH hlo w => ?_) k1
      have hKK := hS.2.2.2.2.2.2.1
      obtain ⟨b0, r, hr, cell, c1, c2, c3, -⟩ := ev_obj hH hk (evC_lt hc)
      have hcl := (hKK.1.1 ci _ hc).2
      exact va_castS hS.1 hS.2.1 hS.2.2.2.1 (hS.2.2.2.2.2.1 _ hl) hcl ⟨cell, c1, by rw [c3]; rfl, by rw [c2]; exact hcl.1⟩ hd w
    · exact ev_no
theorem ev_checkcastA (n : Nat) {ix t : Nat} {C nm : String} {q : Option Nat} (hd : decode (mB M) pc = .ok (.checkcast ix, 3)) (ht : 52 ≤ t ∧ t ≤ 57) (hty : evTy t = .object C) (hnm : "[" ++ (FieldType.object C).toString = nm) (hl : Cond.classLink (mY M).cls ix nm ∈ evW) (hn : n = pc + 3) (k1 : EvO E M d cv n lo (va_rf q :: st) h o) : EvO E M d cv pc lo (va_rf q :: st) h (eCa h t q o) := by
  subst hn
  unfold eCa
  cases q with
  | none => exact ev_lift (fun hS _ w => lv_castN hS.1 hS.2.1 hd w) k1
  | some a =>
    dsimp only
    split
    · rename_i hk
      refine ev_liftH (fun hS hL hH hlo w => ?_) k1
      have hKK := hS.2.2.2.2.2.2.1
      obtain ⟨hk, hl0⟩ := hk
      obtain ⟨g0, g1, g2⟩ := ev_arrQ hH hk ht.1 ht.2 hl0
      have hAT := hKK.2.1 t (by omega) (by omega)
      rw [hty] at hAT
      exact va_castA (D := eD E) (cl := evC) hS.1 hS.2.1 hS.2.2.2.1 (hS.2.2.2.2.2.1 _ hl) (va_P1 (q := (a, .inl (eA E t, xL h a, .inr (.inr (.inr (.inr _)))))) g2) 0 rfl (va_nmO hAT.2 hnm) hd w
    · exact ev_no
theorem ev_ldcMirror (n : Nat) {ix : Nat} (hd : decode (mB M) pc = .ok (.ldc ix, 2)) (hl : Cond.classLink (mY M).cls ix "[Ljava/lang/Object;" ∈ evW) (hn : n = pc + 2) (k1 : EvO E M d cv n lo (va_rf (some (xM h)) :: st) h o) : EvO E M d cv pc lo st h o := by
  subst hn
  refine ev_liftH (fun hS hL hH hlo w => ?_) k1
  obtain ⟨x1, x2, x3, x4, x5, x6, x7⟩ := hH
  rw [x4] at w
  exact va_ldcM hS.1 hS.2.1 hS.2.2.2.1 (hS.2.2.2.2.2.1 _ hl) hS.2.2.2.2.2.2.1.2.2.2.2.2.2.1 hd w
theorem ev_getClass (n : Nat) {ix : Nat} {q : Option Nat} {j : Nat} {K : Option Nat → Option α} (hd : decode (mB M) pc = .ok (.invokevirtual ix, 3)) (hl : Cond.methodLink (mY M).cls ix ⟨"java/lang/Object", "getClass", "()Ljava/lang/Class;"⟩ ∈ evW)
    (hsel : Cond.selects "[Ljava/lang/Object;" ⟨"java/lang/Object", "getClass", "()Ljava/lang/Class;"⟩ ⟨"java/lang/Object", "getClass", "()Ljava/lang/Class;"⟩ ∈ evW) (hins : Cond.instanceMethod ⟨"java/lang/Object", "getClass", "()Ljava/lang/Class;"⟩ ∈ evW) (hnat : Cond.native ⟨"java/lang/Object", "getClass", "()Ljava/lang/Class;"⟩ ∈ evW) (hty : evTy 52 = .object "java/lang/Object") (hd1 : 1 ≤ d) (hsm : ev_sm st j) (hj : j ≤ 8) (hn : n = pc + 3)
    (k1 : ∀ z, EvO E M d cv n lo (va_rf z :: st) h (K z)) : EvO E M d cv pc lo (va_rf q :: st) h (eGc h 52 q K) := by
  subst hn
  unfold eGc
  cases q with
  | none => exact ev_no
  | some a =>
    dsimp only
    split
    · rename_i hk
      refine ev_liftH (fun hS hL hH hlo w => ?_) (k1 _)
      have hts := hS.2.2.2.2.2.1
      have hKK := hS.2.2.2.2.2.2.1
      have hRo := hS.2.2.2.2.2.2.2
      obtain ⟨hk, hl0⟩ := hk
      obtain ⟨g0, g1, g2⟩ := ev_arrQ hH hk (by omega) (by omega) hl0
      obtain ⟨x1, x2, x3, x4, x5, x6, x7⟩ := hH
      rw [x4] at w
      have hAT := hKK.2.1 52 (by omega) (by omega)
      rw [hty] at hAT
      refine va_getC (C := "[Ljava/lang/Object;") hS.1 hS.2.1 (by rw [hS.2.2.1]; exact hL.1.symm) hS.2.2.2.1 (hts _ hl) (va_Dc.use hKK.2.2.2.2.2.2.2.1) (hts _ hsel) (hts _ hins) (hts _ hnat) hKK.2.2.2.2.2.2.1 ⟨_, g2, rfl, ?_⟩ (by have := hRo.1; omega) ?_ hd w
      · exact va_nmO hAT.2 rfl
      · have h1 := hRo.2.1
        have h2 : (st.map fun v => v.category).sum ≤ 8 := Nat.le_trans hsm hj
        omega
    · exact ev_no
end Rules5
section Copy
variable {p : Program} {l : Launch} {e : Env} {R : Room} {s : State} {m : MethodId} {args : Array Value} {below : List Frame} {meth : Method} {c : Code} {H : Heap} {locs : List Loc} {cells slots : Nat} {Z : State → Prop}
variable {cc : ByteArray} {pc : Nat} {ls : Array Slot} {rest : List Value}
theorem ev_copy0 (hexec : p.tables.exec = Jvm.exec) (hb : c.code = cc) (hml : c.maxLocals = ls.size) {own : String} {index : Nat} (hown : s.vm.findClass own = some m.cls) (hlink : (Cond.methodLink own index arraycopyName).before args s = true) (hnat : (Cond.native arraycopyName).before args s = true) (hstat : (Cond.static arraycopyName).before args s = true) (hini : (Cond.initialized "java/lang/System").before args s = true)
    {a0 a n0 n1 : Nat} {cA : ClassId} {f g : Nat → Option Nat} {E1 C : String} (hc0 : H[a0]? = some (vp_cell cA (n0, .inr (.inr (.inr (.inr f)))))) (hc1 : H[a]? = some (vp_cell cA (n1, .inr (.inr (.inr (.inr g)))))) (hAT : ArrOfT s cA (.object E1)) (hRA : va_RA s cA (.object E1))
    {sp dp n : Int32} (h1 : ¬ sp < 0) (h2 : ¬ dp < 0) (h3 : ¬ n < 0) (h4 : sp.toNatClampNeg + n.toNatClampNeg ≤ n0) (h5 : dp.toNatClampNeg + n.toNatClampNeg ≤ n1)
    (hel : ∀ i : Nat, i < n.toNatClampNeg → ∀ y : Nat, f (sp.toNatClampNeg + i) = some y → ∃ cellV : Cell, H[y]? = some cellV ∧ cellV.vm.isStatics = false ∧ s.vm.findClass C = some cellV.cls) (hasg : ∀ comp c0 : ClassId, s.vm.findClass E1 = some comp → s.vm.findClass C = some c0 → s.vm.assignable c0 comp = true)
    (hframes : 1 ≤ R.frames) (hlocals : (rest.map fun v => v.category).sum + (nativeFrameWords "java/lang/System" "arraycopy" 5 + 11) ≤ R.locals) (hdg : decode cc pc = .ok (.invokestatic index, 3))
    (kk : ∀ (H1 : Heap) (locs1 : List Loc), H1[a]? = some (vp_cell cA (n1, .inr (.inr (.inr (.inr (va_cpy f g sp.toNatClampNeg dp.toNatClampNeg n.toNatClampNeg)))))) → H1.size = H.size → (∀ q, q ≠ a → H1[q]? = H[q]?) → (∀ q ∈ locs1, q ∈ locs ∨ q.base = a) → W p l e R s m args below meth c H1 locs1 cells slots Z (F0 m (pc + 3) ls rest)) :
    W p l e R s m args below meth c H locs cells slots Z (F0 m pc ls (.int n :: .int dp :: .ref a :: .int sp :: .ref a0 :: rest)) := by
  have nn : ∀ z : Int32, ¬ z < 0 → z.toInt = (z.toNatClampNeg : Int) := by
    intro z hz
    have hz0 : (0 : Int) ≤ z.toInt := by
      have := Int32.not_lt.mp hz
      simpa using Int32.le_iff_toInt_le.mp this
    show z.toInt = ((z.toInt.toNat : Nat) : Int)
    omega
  intro T hT X
  obtain ⟨-, k0, hk0, cm0, hkk0⟩ := hAT n0 (fun j => va_rf (f j))
  obtain ⟨kA, comp, r1, r2, r3, -⟩ := hRA
  cases hk0.symm.trans r1
  cases hkk0.symm.trans r2
  have hsz0 : (vp_cell cA (n0, .inr (.inr (.inr (.inr f))))).slots.size = n0 := by rw [vp_cell_q, arrV_size]
  have hsz1 : (vp_cell cA (n1, .inr (.inr (.inr (.inr g))))).slots.size = n1 := by rw [vp_cell_q, arrV_size]
  obtain ⟨vm', X', step⟩ := X.arraycopy hexec hown hlink hnat hstat hini (src := a0) (dst := a) (cs := vp_cell cA (n0, .inr (.inr (.inr (.inr f))))) (cd := vp_cell cA (n1, .inr (.inr (.inr (.inr g))))) (srcPos := sp) (destPos := dp) (n := n) (by rw [hT]; exact hc0) (by rw [hT]; exact hc1)
    (fun _ h => by cases h) (fun _ h => by cases h) (fun h => by cases h) (fun h => by cases h) hk0 hk0 hkk0 hkk0 rfl h1 h2 h3
    (by rw [nn sp h1, nn n h3, hsz0]; omega)
    (by rw [nn dp h2, nn n h3, hsz1]; omega)
    (fun vm₁ hal i hi => by
      have ee : (vp_cell cA (n0, .inr (.inr (.inr (.inr f))))).slots.getD (sp.toNatClampNeg + i) .null = va_rf (f (sp.toNatClampNeg + i)) := by
        show (arrV cA n0 (fun j => va_rf (f j))).slots.getD _ _ = _
        rw [Array.getD_eq_getD_getElem?, arrV_read _ _ (by omega)]
        rfl
      rw [ee]
      cases hy : f (sp.toNatClampNeg + i) with
      | none => exact ⟨rfl, trivial⟩
      | some y =>
        obtain ⟨cellV, g1, g2, g3⟩ := hel i hi y hy
        obtain ⟨kC, hkC, -⟩ := Vm.findClass_spec g3
        obtain ⟨kE, hkE, -⟩ := Vm.findClass_spec r3
        obtain ⟨kC', hkC', -⟩ := hal.2.2 _ _ hkC
        obtain ⟨kE', hkE', -⟩ := hal.2.2 _ _ hkE
        refine ⟨rfl, cellV, (show T.heap[y]? = some cellV by rw [hT]; exact g1), (fun q h => by rw [h] at g2; cases g2), ⟨kC', hkC'⟩, ⟨kE', hkE'⟩, ?_⟩
        show vm₁.assignable _ _ = true
        rw [hal.assignable]
        exact hasg _ _ r3 g3)
    (g := F0 m pc ls (.int n :: .int dp :: .ref a :: .int sp :: .ref a0 :: rest)) rfl (by rw [hml]) (rest := rest) rfl (by rw [hb]; exact hdg) hframes (by show 2 * 0 + _ + _ ≤ _; omega)
  have e1 : copied (vp_cell cA (n0, .inr (.inr (.inr (.inr f))))) (vp_cell cA (n1, .inr (.inr (.inr (.inr g))))) sp dp n = vp_cell cA (n1, .inr (.inr (.inr (.inr (va_cpy f g sp.toNatClampNeg dp.toNatClampNeg n.toNatClampNeg))))) := by
    rw [vp_cell_q, vp_cell_q, vp_cell_q]
    exact va_copied (fun z => va_rf z) cA cA f g h4
  rw [e1] at X' step
  have hl : a < T.heap.size := by
    rw [hT]
    exact (Array.getElem?_eq_some_iff.mp hc1).1
  obtain ⟨t, a1, b1⟩ := kk _ _ (heapAt_setCell_self (s := T.setVm vm') _ hl) (by rw [size_setCell]; exact congrArg _ hT) (fun q hq => by rw [heapAt_setCell_ne _ (Ne.symm hq)]; exact congrArg (fun X : Heap => X[q]?) hT) (fun q hq => by
      rcases List.mem_append.mp hq with h | h
      · exact Or.inl h
      · obtain ⟨z, -, hz⟩ := List.mem_map.mp h
        exact Or.inr (by rw [← hz])) _ rfl X'
  exact ⟨t, step t a1, b1⟩
end Copy
section Rules6
variable {α : Type} {E : ev_E} {M : ev_M} {d : Nat} {cv : α → Option Value × ev_hs} {pc : Nat} {lo : List (Option Value)} {st : List Value} {h : ev_hs} {o : Option α}
theorem ev_arraycopy (nx : Nat) {ec ix j : Nat} {q v : Option Nat} {sp dp n : Int} {K : ev_hs → Option α} (hd : decode (mB M) pc = .ok (.invokestatic ix, 3)) (hl : Cond.methodLink (mY M).cls ix arraycopyName ∈ evW) (hnat : Cond.native arraycopyName ∈ evW) (hstat : Cond.static arraycopyName ∈ evW) (hini : Cond.initialized "java/lang/System" ∈ evW) (ho : ev_AO 52 ec) (hd1 : 1 ≤ d) (hsm : ev_sm st j) (hj : j ≤ 8) (hn : nx = pc + 3)
    (k1 : ∀ g, EvO E M d cv nx lo st g (K g)) : EvO E M d cv pc lo (eI n :: eI dp :: va_rf v :: eI sp :: va_rf q :: st) h (cQ h 52 ec q sp v dp n K) := by
  subst hn
  cases q with
  | none => exact ev_no
  | some a0 =>
  cases v with
  | none => exact ev_no
  | some a =>
    unfold cQ
    dsimp only
    split
    · rename_i hk
      obtain ⟨hka, hkd, h1, h2, h3, h4, h5, h6, h7⟩ := hk
      obtain ⟨C0, C, T, N, hty, hc, hasg⟩ := ho
      refine ev_liftW (h' := wC h a0 sp.toNat a dp.toNat n.toNat) (c1 := 0) (s1 := 0) rfl rfl (fun hS hL hH hlo hc1 hs1 w => ?_) (k1 _)
      have hts := hS.2.2.2.2.2.1
      have hKK := hS.2.2.2.2.2.2.1
      have hRo := hS.2.2.2.2.2.2.2
      obtain ⟨g0, g1, g2⟩ := ev_arrQ hH hka (by omega) (by omega) (by omega)
      obtain ⟨b0, b1, b2⟩ := ev_arrQ hH hkd (by omega) (by omega) (by omega)
      have hAT := hKK.2.1 52 (by omega) (by omega)
      rw [hty] at hAT
      have c1 : (Int32.ofInt sp).toNatClampNeg = sp.toNat := eI_cl h1 (by omega)
      have c2 : (Int32.ofInt dp).toNatClampNeg = dp.toNat := eI_cl h2 (by omega)
      have c3 : (Int32.ofInt n).toNatClampNeg = n.toNat := eI_cl h3 (by omega)
      have hba : e0 E ≤ a := by omega
      refine ev_copy0 (C := C) hS.1 hS.2.1 (by rw [hS.2.2.1]; exact hL.1.symm) hS.2.2.2.1 (hts _ hl) (hts _ hnat) (hts _ hstat) (hts _ hini) g2 b2 hAT.1 hAT.2 (eI_nneg h1 (by omega)) (eI_nneg h2 (by omega)) (eI_nneg h3 (by omega)) (by rw [c1, c3]; omega) (by rw [c2, c3]; omega) (fun i hi y hy => ?_) (fun comp c0 => hasg _ _ hKK comp c0) (by have := hRo.1; omega) ?_ hd (fun H1 locs1 e1 e2 e3 e4 => ?_)
      · rw [c3] at hi
        rw [c1] at hy
        have hok : okQ h ec (xQ h a0 (sp.toNat + i)) = true := List.all_eq_true.mp h6 i (List.mem_range.mpr hi)
        rw [hy] at hok
        have hky : xK h y = ec + 1 := by simpa [okQ] using hok
        obtain ⟨-, r, hr, cell, d1, d2, d3, -⟩ := ev_obj hH hky (evC_lt hc)
        exact ⟨cell, d1, by rw [d3]; rfl, by rw [d2]; exact ((hKK.1.1 ec _ hc).2).1⟩
      · have h1 := hRo.2.1
        have h2 : (st.map fun v => v.category).sum ≤ 8 := Nat.le_trans hsm hj
        have h9 : nativeFrameWords "java/lang/System" "arraycopy" 5 ≤ 20 := by decide
        omega
      · rw [c1, c2, c3] at e1
        have ek : ∀ b, xK (wC h a0 sp.toNat a dp.toNat n.toNat) b = xK h b := fun b => rfl
        refine w H1 locs1 (ev_H_put hH rfl rfl rfl rfl rfl hba e2 e3 (fun b hb => ⟨fun f => rfl, fun f => rfl, rfl, ?_⟩) (fun _ => ⟨fun c9 hc9 h49 => ?_, fun u1 u2 => ?_, fun u1 u2 => ?_, fun u1 => ?_⟩)) (fun q hq => ?_)
        · funext j
          simp [wC, xQ, hb]
        · rw [ek, hkd] at hc9
          omega
        · rw [ek, hkd] at u2
          omega
        · have hq : xQ (wC h a0 sp.toNat a dp.toNat n.toNat) a = va_cpy (xQ h a0) (xQ h a) sp.toNat dp.toNat n.toNat := by
            funext j
            simp [va_cpy, wC, xQ]
          rw [ek, hkd, e1, hq]
          exact Or.inl rfl
        · rw [ek, hkd] at u1
          omega
        · rcases e4 q hq with h | h
          · exact hlo q h
          · rw [h]
            exact hba
    · exact ev_no
end Rules6
end
section
/-! calls -/
def ev_Pc (E : ev_E) (As : List Value) (h : ev_hs) : Array Value → State → Prop := fun a U => a = As.toArray ∧ ev_H E h U.heap ∧ ev_K E U
def ev_Qc (E : ev_E) (x : Option Value × ev_hs) : Array Value → State → Outcome → State → Prop := fun _ _ oc t => oc = .returned x.1 ∧ ev_H E x.2 t.heap
def ev_ws (M : ev_M) : List Cond := Cond.code (mY M) (mB M) (mL M) (mR M) :: evW
def ev_rm (d : Nat) (h : ev_hs) (x : Option Value × ev_hs) : Room := { frames := d, cells := xC x.2 - xC h, slots := xS x.2 - xS h, locals := 40 * d }
theorem ev_args {As : List Value} (hc : ∀ v ∈ As, v.category = 1) {i : Nat} {v : Value} (hi : As[i]? = some v) (k : Nat) : (k + i, v) ∈ lv_args k As := by
  induction As generalizing i k with
  | nil => simp at hi
  | cons w r ih =>
    have hw : w.category = 1 := hc w List.mem_cons_self
    unfold lv_args
    cases i with
    | zero => simp at hi; subst hi; exact List.mem_cons_self
    | succ i =>
      simp only [List.getElem?_cons_succ] at hi
      rw [if_neg (by omega)]
      have := ih (fun v hv => hc v (List.mem_cons_of_mem _ hv)) hi (k + 1)
      rw [show k + 1 + i = k + (i + 1) by omega] at this
      exact List.mem_cons_of_mem _ this
theorem ev_sl {As : List Value} (hc : ∀ v ∈ As, v.category = 1) : (lg_sl As).length = As.length := by
  induction As with
  | nil => rfl
  | cons w r ih =>
    have hw : w.category = 1 := hc w List.mem_cons_self
    have h2 := ih (fun v hv => hc v (List.mem_cons_of_mem _ hv))
    unfold lg_sl at *
    simp only [List.flatMap_cons, hw, List.length_append, h2]
    simp
    omega
theorem ev_Zmoved {E : ev_E} {u U : State} (hW : u.WarmedH U.vm) (hK : ev_K E u) : ev_K E U := by
  obtain ⟨k1, k2, k3, k4, k5, ⟨k9, k10⟩, k6, k7, k8⟩ := hK
  have hal := hW.alike
  exact ⟨k1.moved hal, fun t h1 h2 => ⟨arrOfT_moved hal (k2 t h1 h2).1, (k2 t h1 h2).2.moved hal⟩, State.isArrayOf_alike hal k3, k4, ev_Xmoved hW k5, ⟨State.isArrayOf_alike hal k9, k10⟩, k6.moved hal, k7.moved hal, k8.moved hal⟩
theorem ev_met {E : ev_E} {M : ev_M} {d k : Nat} {As : List Value} {lo : List (Option Value)} {h : ev_hs} {x : Option Value × ev_hs} (hy : plainFor (mY M) = true) (hc : ∀ v ∈ As, v.category = 1) (hlen : As.length ≤ mL M) (hlo : lo = As.map some ++ List.replicate k none) (hE : Ev E M d 0 lo [] h x) :
    Met (eLa E) (mY M) (ev_ws M) (ev_rm d h x) (ev_Pc E As h) (ev_Qc E x) (xC x.2 - xC h) (xS x.2 - xS h) (fun q => e0 E ≤ q) := by
  refine va_MetF (cc := mB M) (maxL := mL M) (ret := mR M) hy rfl ?_
  intro p e s m args below meth c s₁ B hml hv
  obtain ⟨rfl, hH, hK⟩ := hv
  have hts := atoms_spec (ws := ev_ws M) B.pre
  have hown : s.vm.findClass (mY M).cls = some m.cls := findClass_of_methodNamed B.named
  have hnm : meth.name = (mY M).name := (name_of_methodNamed B.named B.method).1
  have hl := lv_entry As (n := mL M) (by rw [ev_sl hc]; exact hlen)
  rw [lg_entry_eq]
  generalize (lg_sl As ++ List.replicate (mL M - (lg_sl As).length) Slot.unset).toArray = ls at hl ⊢
  refine hE.2.2 p e _ s m _ below meth c _ (xC x.2 - xC h) (xS x.2 - xS h) ⟨B.exec, B.bytes, hml, hown, hnm, fun w hw => hts w (List.mem_cons_of_mem _ hw), hK, ⟨Nat.le_refl _, Nat.le_refl _, Nat.le_refl _, Nat.le_refl _⟩⟩ ?_ s.heap [] 0 0 ls hH (fun q hq => by cases hq) ⟨hl.1, hl.2.1, fun i v hi => ?_⟩ (Nat.le_of_eq (Nat.zero_add _)) (Nat.le_of_eq (Nat.zero_add _))
  · intro H locs pc ls' st hH' hl' hV
    rcases hV with ⟨hd, v, ty, e1, rfl, hr, hn⟩ | ⟨hd, r, rt, e1, rfl, hr, hrt⟩ | ⟨hd, e1, rfl, hr⟩
    · exact W.zret B.exec B.bytes (B.returns.trans hr) hn (fun t ht hW => ⟨by rw [e1], by rw [ht]; exact hH'⟩) hl' hd (hlocks := B.notSynchronized)
    · exact W.aret B.exec B.bytes (B.returns.trans hr) hrt (by cases r with | none => exact Or.inl rfl | some a => exact Or.inr ⟨a, rfl⟩) (fun t ht hW => ⟨by rw [e1], by rw [ht]; exact hH'⟩) hl' hd (hlocks := B.notSynchronized)
    · exact W.vret B.exec B.bytes (B.returns.trans hr) (fun t ht hW => ⟨by rw [e1], by rw [ht]; exact hH'⟩) hl' hd (hlocks := B.notSynchronized)
  · have hA : As[i]? = some v := by
      subst hlo
      by_cases hi2 : i < As.length
      · rw [List.getElem?_append_left (by simpa using hi2), List.getElem?_map] at hi
        cases hw : As[i]? with
        | none => rw [hw] at hi; cases hi
        | some w => rw [hw] at hi; simp at hi; rw [hi]
      · rw [List.getElem?_append_right (by simpa using hi2)] at hi
        have := List.eq_of_mem_replicate (List.mem_of_getElem? hi)
        cases this
    have := ev_args hc hA 0
    rw [Nat.zero_add] at this
    exact ⟨hl.2.2 _ this, hc v (List.mem_of_getElem? hA)⟩
theorem ev_good {M : ev_M} (hc : Cond.code (mY M) (mB M) (mL M) (mR M) ∈ evW) : GoodIn evW (ev_ws M) := by
  intro w hw
  rcases List.mem_cons.mp hw with rfl | hw
  · exact ⟨hc, Or.inl rfl⟩
  · exact ⟨hw, evW_good w hw⟩
-- the words of a call: virtual (the receiver of class ci), static, a constructor
def ev_CB (M' : ev_M) (n : Nat) : Prop := Cond.code (mY M') (mB M') (mL M') (mR M') ∈ evW ∧ Cond.initialized (mY M').cls ∈ evW ∧ ((mY M').cls ≠ "java/lang/invoke/MethodHandle" ∧ (mY M').cls ≠ "java/lang/invoke/VarHandle" ∧ (parseMethodDescriptor (mY M').desc).map (fun d => d.parameters.length) = some n) ∧ mL M' ≤ 21 ∧ plainFor (mY M') = true
def ev_CV (own : String) (ix ci : Nat) (M' : ev_M) (n : Nat) : Prop := ev_CB M' n ∧ Cond.methodLink own ix (mY M') ∈ evW ∧ Cond.instanceMethod (mY M') ∈ evW ∧ Cond.selects (mY M').cls (mY M') (mY M') ∈ evW ∧ ∃ (T : u_T) (N : Nat), evC[ci]? = some ((mY M').cls, T, N)
def ev_CI (own : String) (ix : Nat) (M' : ev_M) (n : Nat) : Prop := ev_CB M' n ∧ Cond.methodLink own ix (mY M') ∈ evW ∧ Cond.instanceMethod (mY M') ∈ evW ∧ (mY M').name = "<init>" ∧ mR M' = none
def ev_CS (own : String) (ix : Nat) (M' : ev_M) (n : Nat) : Prop := ev_CB M' n ∧ Cond.methodLink own ix (mY M') ∈ evW ∧ Cond.static (mY M') ∈ evW
def ev_CN (own : String) (ix : Nat) (M' : ev_M) (n : Nat) : Prop := ev_CB M' n ∧ (∃ host, ∀ U, ev_X U → va_Nw (.methodLinkNest own ix (mY M') host) U) ∧ Cond.static (mY M') ∈ evW
section Call0
variable {p : Program} {e : Env} {R : Room} {s : State} {m : MethodId} {args : Array Value} {below : List Frame} {meth : Method} {c : Code} {H : Heap} {locs : List Loc} {cells slots : Nat} {Z : State → Prop}
variable {pc : Nat} {ls : Array Slot} {st st0 : List Value} {E : ev_E} {M M' : ev_M} {d d' mc ms n ix j k : Nat} {h : ev_hs} {x : Option Value × ev_hs} {As : List Value} {lo' : List (Option Value)}
theorem ev_runW {mc1 ms1 : Nat} {a : Array Value} (hr : va_Run p (eLa E) e R s m args below meth c H locs cells slots mc1 ms1 (F0 m pc ls st0) st (ev_Qc E x a) (fun q => e0 E ≤ q)) (hl : ∀ q ∈ locs, e0 E ≤ q.base)
    (kk : ∀ (H1 : Heap) (locs1 : List Loc), ev_H E x.2 H1 → (∀ q ∈ locs1, e0 E ≤ q.base) → W p (eLa E) e R s m args below meth c H1 locs1 (cells + mc1) (slots + ms1) Z (F0 m (pc + 3) ls (x.1.toList ++ st))) : W p (eLa E) e R s m args below meth c H locs cells slots Z (F0 m pc ls st0) := by
  intro T hT X
  obtain ⟨v, st₀, t, T', L, h0, X', hL, e1, e2, ⟨hv, hh⟩, stp⟩ := hr T hT X
  cases hv
  obtain ⟨t2, a1, b1⟩ := kk T'.heap (locs ++ L) (by rw [e1]; exact hh) (t_lL hl hL) T' rfl X'
  exact ⟨t2, stp t2 a1, b1⟩
theorem ev_blind : FrameBlind (ev_Pc E As h) := fun _ _ _ _ q => q
theorem ev_fixC (hS : ev_S E M d mc ms p R s m args meth c) (hL : ls.size = mL M) : CallFix p m c (mB M) (mL M) s args evW (mY M).cls := ⟨hS.1, hS.2.1, hS.2.2.1, hS.2.2.2.1, hS.2.2.2.2.2.1⟩
theorem ev_room (hRo : ev_Ro d mc ms R) (hd : d' + 1 ≤ d) (hm : mL M' ≤ 21) : (ev_rm d' h x).frames + 1 ≤ R.frames ∧ 8 + (mL M' + 11) + (ev_rm d' h x).locals ≤ R.locals := by
  obtain ⟨r1, r2, -, -⟩ := hRo
  show d' + 1 ≤ R.frames ∧ 8 + (mL M' + 11) + 40 * d' ≤ R.locals
  omega
theorem ev_runV {ci b : Nat} (hS : ev_S E M d mc ms p R s m args meth c) (hLs : ls.size = mL M) (hH : ev_H E h H) (hw : ev_CV (mY M).cls ix ci M' n) (hk : xK h b = ci + 1) (hd' : d' + 1 ≤ d) (hc : ∀ v ∈ As, v.category = 1) (hn : As.length = n) (hlen : n + 1 ≤ mL M') (hlo : lo' = (Value.ref b :: As).map some ++ List.replicate k none) (hE : Ev E M' d' 0 lo' [] h x)
    (hst : st0 = As.reverse ++ .ref b :: st) (hsm : ev_sm st j) (hj : j ≤ 8) (hdg : decode (mB M) pc = .ok (.invokevirtual ix, 3)) (hcl : cells + (xC x.2 - xC h) ≤ mc) (hsl : slots + (xS x.2 - xS h) ≤ ms) :
    va_Run p (eLa E) e R s m args below meth c H locs cells slots (xC x.2 - xC h) (xS x.2 - xS h) (F0 m pc ls st0) st (ev_Qc E x (Value.ref b :: As).toArray) (fun q => e0 E ≤ q) := by
  obtain ⟨⟨w1, w2, w3, w4, w5⟩, w6, w7, w8, T, N, w9⟩ := hw
  have hts := hS.2.2.2.2.2.1
  have hKK := hS.2.2.2.2.2.2.1
  have hRo := hS.2.2.2.2.2.2.2
  obtain ⟨b0, r, hr, cell, c1, c2, c3, -⟩ := ev_obj hH hk (evC_lt w9)
  refine va_runV (nL := mL M) (C := (mY M').cls) (ev_fixC hS hLs) (ev_met (k := k) w5 (fun v hv => ?_) (by simp; omega) hlo hE) ⟨callB_of n hts (ev_good w1) rfl rfl rfl (hts _ w2) (hts _ w6) w3 (ev_room hRo hd' w4), hts _ w7, hts _ w8⟩ ⟨ev_blind, ⟨cell, c1, by rw [c3]; rfl, by rw [c2]; exact ((hKK.1.1 ci _ w9).2).1⟩, fun U hU hW => ⟨rfl, by rw [hU]; exact hH, ev_Zmoved hW hKK⟩⟩ rfl hn hLs hst (Nat.le_trans (by show 2 * 0 + _ ≤ j; rw [Nat.mul_zero, Nat.zero_add]; exact hsm) hj) hdg ⟨by have := hRo.2.2.1; omega, by have := hRo.2.2.2; omega⟩
  rcases List.mem_cons.mp hv with rfl | hv
  · rfl
  · exact hc v hv
theorem ev_runI {b : Nat} (hS : ev_S E M d mc ms p R s m args meth c) (hLs : ls.size = mL M) (hH : ev_H E h H) (hw : ev_CI (mY M).cls ix M' n) (hd' : d' + 1 ≤ d) (hc : ∀ v ∈ As, v.category = 1) (hn : As.length = n) (hlen : n + 1 ≤ mL M') (hlo : lo' = (Value.ref b :: As).map some ++ List.replicate k none) (hE : Ev E M' d' 0 lo' [] h x)
    (hst : st0 = As.reverse ++ .ref b :: st) (hsm : ev_sm st j) (hj : j ≤ 8) (hdg : decode (mB M) pc = .ok (.invokespecial ix, 3)) (hcl : cells + (xC x.2 - xC h) ≤ mc) (hsl : slots + (xS x.2 - xS h) ≤ ms) :
    va_Run p (eLa E) e R s m args below meth c H locs cells slots (xC x.2 - xC h) (xS x.2 - xS h) (F0 m pc ls st0) st (ev_Qc E x (Value.ref b :: As).toArray) (fun q => e0 E ≤ q) := by
  obtain ⟨⟨w1, w2, w3, w4, w5⟩, w6, w7, w8, w9⟩ := hw
  have hts := hS.2.2.2.2.2.1
  have hKK := hS.2.2.2.2.2.2.1
  have hRo := hS.2.2.2.2.2.2.2
  have hM := ev_met (k := k) w5 (As := Value.ref b :: As) (fun v hv => by
    rcases List.mem_cons.mp hv with rfl | hv
    · rfl
    · exact hc v hv) (by simp; omega) hlo hE
  have hcb := callB_of n hts (ev_good w1) rfl rfl rfl (hts _ w2) (hts _ w6) w3 (ev_room (h := h) (x := x) hRo hd' w4)
  rw [w9] at hcb
  exact va_runI (nL := mL M) (ev_fixC hS hLs) hM ⟨hcb, w8, hts _ w7⟩ ⟨ev_blind, fun U hU hW => ⟨rfl, by rw [hU]; exact hH, ev_Zmoved hW hKK⟩⟩ rfl hn hLs hst (Nat.le_trans (by show 2 * 0 + _ ≤ j; rw [Nat.mul_zero, Nat.zero_add]; exact hsm) hj) hdg ⟨by have := hRo.2.2.1; omega, by have := hRo.2.2.2; omega⟩
theorem ev_runS (hS : ev_S E M d mc ms p R s m args meth c) (hLs : ls.size = mL M) (hH : ev_H E h H) (hw : ev_CS (mY M).cls ix M' n) (hd' : d' + 1 ≤ d) (hc : ∀ v ∈ As, v.category = 1) (hn : As.length = n) (hlen : n ≤ mL M') (hlo : lo' = As.map some ++ List.replicate k none) (hE : Ev E M' d' 0 lo' [] h x)
    (hst : st0 = As.reverse ++ st) (hsm : ev_sm st j) (hj : j ≤ 8) (hdg : decode (mB M) pc = .ok (.invokestatic ix, 3)) (hcl : cells + (xC x.2 - xC h) ≤ mc) (hsl : slots + (xS x.2 - xS h) ≤ ms) :
    va_Run p (eLa E) e R s m args below meth c H locs cells slots (xC x.2 - xC h) (xS x.2 - xS h) (F0 m pc ls st0) st (ev_Qc E x As.toArray) (fun q => e0 E ≤ q) := by
  obtain ⟨⟨w1, w2, w3, w4, w5⟩, w6, w7⟩ := hw
  have hts := hS.2.2.2.2.2.1
  have hKK := hS.2.2.2.2.2.2.1
  have hRo := hS.2.2.2.2.2.2.2
  exact va_runS (nL := mL M) (ev_fixC hS hLs) (ev_met (k := k) w5 hc (by omega) hlo hE) ⟨callB_of n hts (ev_good w1) rfl rfl rfl (hts _ w2) (hts _ w6) w3 (ev_room hRo hd' w4), hts _ w7⟩ ⟨ev_blind, fun U hU hW => ⟨rfl, by rw [hU]; exact hH, ev_Zmoved hW hKK⟩⟩ rfl hn hLs hst (Nat.le_trans (by show 2 * 0 + _ ≤ j; rw [Nat.mul_zero, Nat.zero_add]; exact hsm) hj) hdg ⟨by have := hRo.2.2.1; omega, by have := hRo.2.2.2; omega⟩
theorem ev_runN (hS : ev_S E M d mc ms p R s m args meth c) (hLs : ls.size = mL M) (hH : ev_H E h H) (hw : ev_CN (mY M).cls ix M' n) (hd' : d' + 1 ≤ d) (hc : ∀ v ∈ As, v.category = 1) (hn : As.length = n) (hlen : n ≤ mL M') (hlo : lo' = As.map some ++ List.replicate k none) (hE : Ev E M' d' 0 lo' [] h x)
    (hst : st0 = As.reverse ++ st) (hsm : ev_sm st j) (hj : j ≤ 8) (hdg : decode (mB M) pc = .ok (.invokestatic ix, 3)) (hcl : cells + (xC x.2 - xC h) ≤ mc) (hsl : slots + (xS x.2 - xS h) ≤ ms) :
    va_Run p (eLa E) e R s m args below meth c H locs cells slots (xC x.2 - xC h) (xS x.2 - xS h) (F0 m pc ls st0) st (ev_Qc E x As.toArray) (fun q => e0 E ≤ q) := by
  obtain ⟨⟨w1, w2, w3, w4, w5⟩, ⟨host, w6⟩, w7⟩ := hw
  have hts := hS.2.2.2.2.2.1
  have hKK := hS.2.2.2.2.2.2.1
  have hRo := hS.2.2.2.2.2.2.2
  exact va_runSN (nL := mL M) (ev_fixC hS hLs) (ev_met (k := k) w5 hc (by omega) hlo hE) ⟨va_cnB n hts (ev_good w1) rfl rfl rfl (w6 _ hKK.2.2.2.2.1) (hts _ w2) w3 (ev_room hRo hd' w4), hts _ w7, trivial⟩ ⟨ev_blind, fun U hU hW => ⟨rfl, by rw [hU]; exact hH, ev_Zmoved hW hKK⟩⟩ rfl hn hLs hst (Nat.le_trans (by show 2 * 0 + _ ≤ j; rw [Nat.mul_zero, Nat.zero_add]; exact hsm) hj) hdg ⟨by have := hRo.2.2.1; omega, by have := hRo.2.2.2; omega⟩
end Call0
-- a call, then what is behind it
theorem ev_callE {α : Type} {E : ev_E} {M : ev_M} {d : Nat} {cv : α → Option Value × ev_hs} {pc : Nat} {lo : List (Option Value)} {st st0 : List Value} {h : ev_hs} {o : Option α} {x : Option Value × ev_hs} (hm : xC h ≤ xC x.2 ∧ xS h ≤ xS x.2)
    (run : ∀ {p : Program} {e : Env} {R : Room} {s : State} {m : MethodId} {args : Array Value} {below : List Frame} {meth : Method} {c : Code} {H : Heap} {locs : List Loc} {cells slots : Nat} {ls : Array Slot} {mc ms : Nat},
      ev_S E M d mc ms p R s m args meth c → ls.size = mL M → ev_H E h H → cells + (xC x.2 - xC h) ≤ mc → slots + (xS x.2 - xS h) ≤ ms →
      ∃ a, va_Run p (eLa E) e R s m args below meth c H locs cells slots (xC x.2 - xC h) (xS x.2 - xS h) (F0 m pc ls st0) st (ev_Qc E x a) (fun q => e0 E ≤ q))
    (k1 : EvO E M d cv (pc + 3) lo (x.1.toList ++ st) x.2 o) : EvO E M d cv pc lo st0 h o := by
  intro y hy
  obtain ⟨h1, h2, h3⟩ := k1 y hy
  refine ⟨by omega, by omega, fun p e R s m args below meth c Z mc ms hS hT H locs cells slots ls hH hl hL hc hs => ?_⟩
  obtain ⟨a, hr⟩ := run (p := p) (e := e) (below := below) (locs := locs) (cells := cells) (slots := slots) hS hL.1 hH (by omega) (by omega)
  exact ev_runW hr hl (fun H1 locs1 hH1 hl1 => h3 p e R s m args below meth c Z mc ms hS hT H1 locs1 (cells + (xC x.2 - xC h)) (slots + (xS x.2 - xS h)) ls hH1 hl1 hL (by omega) (by omega))
section Calls
variable {α : Type} {E : ev_E} {M M' : ev_M} {d d' ix j kk : Nat} {cv : α → Option Value × ev_hs} {pc : Nat} {lo : List (Option Value)} {st : List Value} {h : ev_hs}
theorem ev_ci0V (nx : Nat) {q : Option Nat} {o' : Option (ev_hs)} {K : ev_hs → Option α} (hd : decode (mB M) pc = .ok (.invokespecial ix, 3)) (hw : ev_CI (mY M).cls ix M' 0) (hd' : d' + 1 ≤ d) (hlen : 1 ≤ mL M')  (hsm : ev_sm st j) (hj : j ≤ 8) (hn : nx = pc + 3) (hcal : EvO E M' d' cvV 0 (some (va_rf q) :: List.replicate kk none) [] h o') (k1 : ∀ g, EvO E M d cv nx lo st g (K g)) : EvO E M d cv pc lo (va_rf q :: st) h (nN q (bV o' K)) := by
  subst hn
  unfold nN
  cases q with
  | none => exact ev_no
  | some b =>
  dsimp only
  unfold bV
  cases ho : o' with
  | none => exact ev_no
  | some y =>
    have hm := hcal y ho
    exact ev_callE (x := cvV y) ⟨hm.1, hm.2.1⟩ (fun hS hLs hH hcl hsl => ⟨_, ev_runI (As := []) (k := kk) hS hLs hH hw hd' (fun v hv => by cases hv) rfl hlen rfl (hcal y ho) rfl hsm hj hd hcl hsl⟩) (k1 y)
theorem ev_ci1V (nx : Nat) {q : Option Nat} {v1 : Value} {o' : Option (ev_hs)} {K : ev_hs → Option α} (hd : decode (mB M) pc = .ok (.invokespecial ix, 3)) (hw : ev_CI (mY M).cls ix M' 1) (hd' : d' + 1 ≤ d) (hlen : 2 ≤ mL M') (h1 : v1.category = 1) (hsm : ev_sm st j) (hj : j ≤ 8) (hn : nx = pc + 3) (hcal : EvO E M' d' cvV 0 (some (va_rf q) :: some v1 :: List.replicate kk none) [] h o') (k1 : ∀ g, EvO E M d cv nx lo st g (K g)) : EvO E M d cv pc lo (v1 :: va_rf q :: st) h (nN q (bV o' K)) := by
  subst hn
  unfold nN
  cases q with
  | none => exact ev_no
  | some b =>
  dsimp only
  unfold bV
  cases ho : o' with
  | none => exact ev_no
  | some y =>
    have hm := hcal y ho
    exact ev_callE (x := cvV y) ⟨hm.1, hm.2.1⟩ (fun hS hLs hH hcl hsl => ⟨_, ev_runI (As := [v1]) (k := kk) hS hLs hH hw hd' (fun v hv => by simp only [List.mem_cons, List.not_mem_nil, or_false] at hv; rcases hv with rfl <;> assumption) rfl hlen rfl (hcal y ho) rfl hsm hj hd hcl hsl⟩) (k1 y)
theorem ev_ci2V (nx : Nat) {q : Option Nat} {v1 v2 : Value} {o' : Option (ev_hs)} {K : ev_hs → Option α} (hd : decode (mB M) pc = .ok (.invokespecial ix, 3)) (hw : ev_CI (mY M).cls ix M' 2) (hd' : d' + 1 ≤ d) (hlen : 3 ≤ mL M') (h1 : v1.category = 1) (h2 : v2.category = 1) (hsm : ev_sm st j) (hj : j ≤ 8) (hn : nx = pc + 3) (hcal : EvO E M' d' cvV 0 (some (va_rf q) :: some v1 :: some v2 :: List.replicate kk none) [] h o') (k1 : ∀ g, EvO E M d cv nx lo st g (K g)) : EvO E M d cv pc lo (v2 :: v1 :: va_rf q :: st) h (nN q (bV o' K)) := by
  subst hn
  unfold nN
  cases q with
  | none => exact ev_no
  | some b =>
  dsimp only
  unfold bV
  cases ho : o' with
  | none => exact ev_no
  | some y =>
    have hm := hcal y ho
    exact ev_callE (x := cvV y) ⟨hm.1, hm.2.1⟩ (fun hS hLs hH hcl hsl => ⟨_, ev_runI (As := [v1, v2]) (k := kk) hS hLs hH hw hd' (fun v hv => by simp only [List.mem_cons, List.not_mem_nil, or_false] at hv; rcases hv with rfl | rfl <;> assumption) rfl hlen rfl (hcal y ho) rfl hsm hj hd hcl hsl⟩) (k1 y)
theorem ev_ci3V (nx : Nat) {q : Option Nat} {v1 v2 v3 : Value} {o' : Option (ev_hs)} {K : ev_hs → Option α} (hd : decode (mB M) pc = .ok (.invokespecial ix, 3)) (hw : ev_CI (mY M).cls ix M' 3) (hd' : d' + 1 ≤ d) (hlen : 4 ≤ mL M') (h1 : v1.category = 1) (h2 : v2.category = 1) (h3 : v3.category = 1) (hsm : ev_sm st j) (hj : j ≤ 8) (hn : nx = pc + 3) (hcal : EvO E M' d' cvV 0 (some (va_rf q) :: some v1 :: some v2 :: some v3 :: List.replicate kk none) [] h o') (k1 : ∀ g, EvO E M d cv nx lo st g (K g)) : EvO E M d cv pc lo (v3 :: v2 :: v1 :: va_rf q :: st) h (nN q (bV o' K)) := by
  subst hn
  unfold nN
  cases q with
  | none => exact ev_no
  | some b =>
  dsimp only
  unfold bV
  cases ho : o' with
  | none => exact ev_no
  | some y =>
    have hm := hcal y ho
    exact ev_callE (x := cvV y) ⟨hm.1, hm.2.1⟩ (fun hS hLs hH hcl hsl => ⟨_, ev_runI (As := [v1, v2, v3]) (k := kk) hS hLs hH hw hd' (fun v hv => by simp only [List.mem_cons, List.not_mem_nil, or_false] at hv; rcases hv with rfl | rfl | rfl <;> assumption) rfl hlen rfl (hcal y ho) rfl hsm hj hd hcl hsl⟩) (k1 y)
theorem ev_ci7V (nx : Nat) {q : Option Nat} {v1 v2 v3 v4 v5 v6 v7 : Value} {o' : Option (ev_hs)} {K : ev_hs → Option α} (hd : decode (mB M) pc = .ok (.invokespecial ix, 3)) (hw : ev_CI (mY M).cls ix M' 7) (hd' : d' + 1 ≤ d) (hlen : 8 ≤ mL M') (h1 : v1.category = 1) (h2 : v2.category = 1) (h3 : v3.category = 1) (h4 : v4.category = 1) (h5 : v5.category = 1) (h6 : v6.category = 1) (h7 : v7.category = 1) (hsm : ev_sm st j) (hj : j ≤ 8) (hn : nx = pc + 3) (hcal : EvO E M' d' cvV 0 (some (va_rf q) :: some v1 :: some v2 :: some v3 :: some v4 :: some v5 :: some v6 :: some v7 :: List.replicate kk none) [] h o') (k1 : ∀ g, EvO E M d cv nx lo st g (K g)) : EvO E M d cv pc lo (v7 :: v6 :: v5 :: v4 :: v3 :: v2 :: v1 :: va_rf q :: st) h (nN q (bV o' K)) := by
  subst hn
  unfold nN
  cases q with
  | none => exact ev_no
  | some b =>
  dsimp only
  unfold bV
  cases ho : o' with
  | none => exact ev_no
  | some y =>
    have hm := hcal y ho
    exact ev_callE (x := cvV y) ⟨hm.1, hm.2.1⟩ (fun hS hLs hH hcl hsl => ⟨_, ev_runI (As := [v1, v2, v3, v4, v5, v6, v7]) (k := kk) hS hLs hH hw hd' (fun v hv => by simp only [List.mem_cons, List.not_mem_nil, or_false] at hv; rcases hv with rfl | rfl | rfl | rfl | rfl | rfl | rfl <;> assumption) rfl hlen rfl (hcal y ho) rfl hsm hj hd hcl hsl⟩) (k1 y)
theorem ev_cn1I (nx : Nat) {v1 : Value} {o' : Option (Int × ev_hs)} {K : Int → ev_hs → Option α} (hd : decode (mB M) pc = .ok (.invokestatic ix, 3)) (hw : ev_CN (mY M).cls ix M' 1) (hd' : d' + 1 ≤ d) (hlen : 1 ≤ mL M') (h1 : v1.category = 1) (hsm : ev_sm st j) (hj : j ≤ 8) (hn : nx = pc + 3) (hcal : EvO E M' d' cvI 0 (some v1 :: List.replicate kk none) [] h o') (k1 : ∀ z g, EvO E M d cv nx lo (eI z :: st) g (K z g)) : EvO E M d cv pc lo (v1 :: st) h (bI o' K) := by
  subst hn
  unfold bI
  cases ho : o' with
  | none => exact ev_no
  | some y =>
    have hm := hcal y ho
    exact ev_callE (x := cvI y) ⟨hm.1, hm.2.1⟩ (fun hS hLs hH hcl hsl => ⟨_, ev_runN (As := [v1]) (k := kk) hS hLs hH hw hd' (fun v hv => by simp only [List.mem_cons, List.not_mem_nil, or_false] at hv; rcases hv with rfl <;> assumption) rfl hlen rfl (hcal y ho) rfl hsm hj hd hcl hsl⟩) (k1 y.1 y.2)
theorem ev_cs1I (nx : Nat) {v1 : Value} {o' : Option (Int × ev_hs)} {K : Int → ev_hs → Option α} (hd : decode (mB M) pc = .ok (.invokestatic ix, 3)) (hw : ev_CS (mY M).cls ix M' 1) (hd' : d' + 1 ≤ d) (hlen : 1 ≤ mL M') (h1 : v1.category = 1) (hsm : ev_sm st j) (hj : j ≤ 8) (hn : nx = pc + 3) (hcal : EvO E M' d' cvI 0 (some v1 :: List.replicate kk none) [] h o') (k1 : ∀ z g, EvO E M d cv nx lo (eI z :: st) g (K z g)) : EvO E M d cv pc lo (v1 :: st) h (bI o' K) := by
  subst hn
  unfold bI
  cases ho : o' with
  | none => exact ev_no
  | some y =>
    have hm := hcal y ho
    exact ev_callE (x := cvI y) ⟨hm.1, hm.2.1⟩ (fun hS hLs hH hcl hsl => ⟨_, ev_runS (As := [v1]) (k := kk) hS hLs hH hw hd' (fun v hv => by simp only [List.mem_cons, List.not_mem_nil, or_false] at hv; rcases hv with rfl <;> assumption) rfl hlen rfl (hcal y ho) rfl hsm hj hd hcl hsl⟩) (k1 y.1 y.2)
theorem ev_cs2I (nx : Nat) {v1 v2 : Value} {o' : Option (Int × ev_hs)} {K : Int → ev_hs → Option α} (hd : decode (mB M) pc = .ok (.invokestatic ix, 3)) (hw : ev_CS (mY M).cls ix M' 2) (hd' : d' + 1 ≤ d) (hlen : 2 ≤ mL M') (h1 : v1.category = 1) (h2 : v2.category = 1) (hsm : ev_sm st j) (hj : j ≤ 8) (hn : nx = pc + 3) (hcal : EvO E M' d' cvI 0 (some v1 :: some v2 :: List.replicate kk none) [] h o') (k1 : ∀ z g, EvO E M d cv nx lo (eI z :: st) g (K z g)) : EvO E M d cv pc lo (v2 :: v1 :: st) h (bI o' K) := by
  subst hn
  unfold bI
  cases ho : o' with
  | none => exact ev_no
  | some y =>
    have hm := hcal y ho
    exact ev_callE (x := cvI y) ⟨hm.1, hm.2.1⟩ (fun hS hLs hH hcl hsl => ⟨_, ev_runS (As := [v1, v2]) (k := kk) hS hLs hH hw hd' (fun v hv => by simp only [List.mem_cons, List.not_mem_nil, or_false] at hv; rcases hv with rfl | rfl <;> assumption) rfl hlen rfl (hcal y ho) rfl hsm hj hd hcl hsl⟩) (k1 y.1 y.2)
theorem ev_cs2R (nx : Nat) {v1 v2 : Value} {o' : Option (Option Nat × ev_hs)} {K : Option Nat → ev_hs → Option α} (hd : decode (mB M) pc = .ok (.invokestatic ix, 3)) (hw : ev_CS (mY M).cls ix M' 2) (hd' : d' + 1 ≤ d) (hlen : 2 ≤ mL M') (h1 : v1.category = 1) (h2 : v2.category = 1) (hsm : ev_sm st j) (hj : j ≤ 8) (hn : nx = pc + 3) (hcal : EvO E M' d' cvR 0 (some v1 :: some v2 :: List.replicate kk none) [] h o') (k1 : ∀ z g, EvO E M d cv nx lo (va_rf z :: st) g (K z g)) : EvO E M d cv pc lo (v2 :: v1 :: st) h (bR o' K) := by
  subst hn
  unfold bR
  cases ho : o' with
  | none => exact ev_no
  | some y =>
    have hm := hcal y ho
    exact ev_callE (x := cvR y) ⟨hm.1, hm.2.1⟩ (fun hS hLs hH hcl hsl => ⟨_, ev_runS (As := [v1, v2]) (k := kk) hS hLs hH hw hd' (fun v hv => by simp only [List.mem_cons, List.not_mem_nil, or_false] at hv; rcases hv with rfl | rfl <;> assumption) rfl hlen rfl (hcal y ho) rfl hsm hj hd hcl hsl⟩) (k1 y.1 y.2)
theorem ev_cs3I (nx : Nat) {v1 v2 v3 : Value} {o' : Option (Int × ev_hs)} {K : Int → ev_hs → Option α} (hd : decode (mB M) pc = .ok (.invokestatic ix, 3)) (hw : ev_CS (mY M).cls ix M' 3) (hd' : d' + 1 ≤ d) (hlen : 3 ≤ mL M') (h1 : v1.category = 1) (h2 : v2.category = 1) (h3 : v3.category = 1) (hsm : ev_sm st j) (hj : j ≤ 8) (hn : nx = pc + 3) (hcal : EvO E M' d' cvI 0 (some v1 :: some v2 :: some v3 :: List.replicate kk none) [] h o') (k1 : ∀ z g, EvO E M d cv nx lo (eI z :: st) g (K z g)) : EvO E M d cv pc lo (v3 :: v2 :: v1 :: st) h (bI o' K) := by
  subst hn
  unfold bI
  cases ho : o' with
  | none => exact ev_no
  | some y =>
    have hm := hcal y ho
    exact ev_callE (x := cvI y) ⟨hm.1, hm.2.1⟩ (fun hS hLs hH hcl hsl => ⟨_, ev_runS (As := [v1, v2, v3]) (k := kk) hS hLs hH hw hd' (fun v hv => by simp only [List.mem_cons, List.not_mem_nil, or_false] at hv; rcases hv with rfl | rfl | rfl <;> assumption) rfl hlen rfl (hcal y ho) rfl hsm hj hd hcl hsl⟩) (k1 y.1 y.2)
theorem ev_cs3R (nx : Nat) {v1 v2 v3 : Value} {o' : Option (Option Nat × ev_hs)} {K : Option Nat → ev_hs → Option α} (hd : decode (mB M) pc = .ok (.invokestatic ix, 3)) (hw : ev_CS (mY M).cls ix M' 3) (hd' : d' + 1 ≤ d) (hlen : 3 ≤ mL M') (h1 : v1.category = 1) (h2 : v2.category = 1) (h3 : v3.category = 1) (hsm : ev_sm st j) (hj : j ≤ 8) (hn : nx = pc + 3) (hcal : EvO E M' d' cvR 0 (some v1 :: some v2 :: some v3 :: List.replicate kk none) [] h o') (k1 : ∀ z g, EvO E M d cv nx lo (va_rf z :: st) g (K z g)) : EvO E M d cv pc lo (v3 :: v2 :: v1 :: st) h (bR o' K) := by
  subst hn
  unfold bR
  cases ho : o' with
  | none => exact ev_no
  | some y =>
    have hm := hcal y ho
    exact ev_callE (x := cvR y) ⟨hm.1, hm.2.1⟩ (fun hS hLs hH hcl hsl => ⟨_, ev_runS (As := [v1, v2, v3]) (k := kk) hS hLs hH hw hd' (fun v hv => by simp only [List.mem_cons, List.not_mem_nil, or_false] at hv; rcases hv with rfl | rfl | rfl <;> assumption) rfl hlen rfl (hcal y ho) rfl hsm hj hd hcl hsl⟩) (k1 y.1 y.2)
theorem ev_cv0I (nx : Nat) {ci : Nat} {q : Option Nat} {o' : Option (Int × ev_hs)} {K : Int → ev_hs → Option α} (hd : decode (mB M) pc = .ok (.invokevirtual ix, 3)) (hw : ev_CV (mY M).cls ix ci M' 0) (hd' : d' + 1 ≤ d) (hlen : 1 ≤ mL M')  (hsm : ev_sm st j) (hj : j ≤ 8) (hn : nx = pc + 3) (hcal : EvO E M' d' cvI 0 (some (va_rf q) :: List.replicate kk none) [] h o') (k1 : ∀ z g, EvO E M d cv nx lo (eI z :: st) g (K z g)) : EvO E M d cv pc lo (va_rf q :: st) h (vK h ci q (bI o' K)) := by
  subst hn
  unfold vK
  cases q with
  | none => exact ev_no
  | some b =>
  dsimp only
  split
  case isFalse => exact ev_no
  rename_i hk
  unfold bI
  cases ho : o' with
  | none => exact ev_no
  | some y =>
    have hm := hcal y ho
    exact ev_callE (x := cvI y) ⟨hm.1, hm.2.1⟩ (fun hS hLs hH hcl hsl => ⟨_, ev_runV (As := []) (k := kk) hS hLs hH hw hk hd' (fun v hv => by cases hv) rfl hlen rfl (hcal y ho) rfl hsm hj hd hcl hsl⟩) (k1 y.1 y.2)
theorem ev_cv0R (nx : Nat) {ci : Nat} {q : Option Nat} {o' : Option (Option Nat × ev_hs)} {K : Option Nat → ev_hs → Option α} (hd : decode (mB M) pc = .ok (.invokevirtual ix, 3)) (hw : ev_CV (mY M).cls ix ci M' 0) (hd' : d' + 1 ≤ d) (hlen : 1 ≤ mL M')  (hsm : ev_sm st j) (hj : j ≤ 8) (hn : nx = pc + 3) (hcal : EvO E M' d' cvR 0 (some (va_rf q) :: List.replicate kk none) [] h o') (k1 : ∀ z g, EvO E M d cv nx lo (va_rf z :: st) g (K z g)) : EvO E M d cv pc lo (va_rf q :: st) h (vK h ci q (bR o' K)) := by
  subst hn
  unfold vK
  cases q with
  | none => exact ev_no
  | some b =>
  dsimp only
  split
  case isFalse => exact ev_no
  rename_i hk
  unfold bR
  cases ho : o' with
  | none => exact ev_no
  | some y =>
    have hm := hcal y ho
    exact ev_callE (x := cvR y) ⟨hm.1, hm.2.1⟩ (fun hS hLs hH hcl hsl => ⟨_, ev_runV (As := []) (k := kk) hS hLs hH hw hk hd' (fun v hv => by cases hv) rfl hlen rfl (hcal y ho) rfl hsm hj hd hcl hsl⟩) (k1 y.1 y.2)
theorem ev_cv0V (nx : Nat) {ci : Nat} {q : Option Nat} {o' : Option (ev_hs)} {K : ev_hs → Option α} (hd : decode (mB M) pc = .ok (.invokevirtual ix, 3)) (hw : ev_CV (mY M).cls ix ci M' 0) (hd' : d' + 1 ≤ d) (hlen : 1 ≤ mL M')  (hsm : ev_sm st j) (hj : j ≤ 8) (hn : nx = pc + 3) (hcal : EvO E M' d' cvV 0 (some (va_rf q) :: List.replicate kk none) [] h o') (k1 : ∀ g, EvO E M d cv nx lo st g (K g)) : EvO E M d cv pc lo (va_rf q :: st) h (vK h ci q (bV o' K)) := by
  subst hn
  unfold vK
  cases q with
  | none => exact ev_no
  | some b =>
  dsimp only
  split
  case isFalse => exact ev_no
  rename_i hk
  unfold bV
  cases ho : o' with
  | none => exact ev_no
  | some y =>
    have hm := hcal y ho
    exact ev_callE (x := cvV y) ⟨hm.1, hm.2.1⟩ (fun hS hLs hH hcl hsl => ⟨_, ev_runV (As := []) (k := kk) hS hLs hH hw hk hd' (fun v hv => by cases hv) rfl hlen rfl (hcal y ho) rfl hsm hj hd hcl hsl⟩) (k1 y)
theorem ev_cv1I (nx : Nat) {ci : Nat} {q : Option Nat} {v1 : Value} {o' : Option (Int × ev_hs)} {K : Int → ev_hs → Option α} (hd : decode (mB M) pc = .ok (.invokevirtual ix, 3)) (hw : ev_CV (mY M).cls ix ci M' 1) (hd' : d' + 1 ≤ d) (hlen : 2 ≤ mL M') (h1 : v1.category = 1) (hsm : ev_sm st j) (hj : j ≤ 8) (hn : nx = pc + 3) (hcal : EvO E M' d' cvI 0 (some (va_rf q) :: some v1 :: List.replicate kk none) [] h o') (k1 : ∀ z g, EvO E M d cv nx lo (eI z :: st) g (K z g)) : EvO E M d cv pc lo (v1 :: va_rf q :: st) h (vK h ci q (bI o' K)) := by
  subst hn
  unfold vK
  cases q with
  | none => exact ev_no
  | some b =>
  dsimp only
  split
  case isFalse => exact ev_no
  rename_i hk
  unfold bI
  cases ho : o' with
  | none => exact ev_no
  | some y =>
    have hm := hcal y ho
    exact ev_callE (x := cvI y) ⟨hm.1, hm.2.1⟩ (fun hS hLs hH hcl hsl => ⟨_, ev_runV (As := [v1]) (k := kk) hS hLs hH hw hk hd' (fun v hv => by simp only [List.mem_cons, List.not_mem_nil, or_false] at hv; rcases hv with rfl <;> assumption) rfl hlen rfl (hcal y ho) rfl hsm hj hd hcl hsl⟩) (k1 y.1 y.2)
theorem ev_cv1R (nx : Nat) {ci : Nat} {q : Option Nat} {v1 : Value} {o' : Option (Option Nat × ev_hs)} {K : Option Nat → ev_hs → Option α} (hd : decode (mB M) pc = .ok (.invokevirtual ix, 3)) (hw : ev_CV (mY M).cls ix ci M' 1) (hd' : d' + 1 ≤ d) (hlen : 2 ≤ mL M') (h1 : v1.category = 1) (hsm : ev_sm st j) (hj : j ≤ 8) (hn : nx = pc + 3) (hcal : EvO E M' d' cvR 0 (some (va_rf q) :: some v1 :: List.replicate kk none) [] h o') (k1 : ∀ z g, EvO E M d cv nx lo (va_rf z :: st) g (K z g)) : EvO E M d cv pc lo (v1 :: va_rf q :: st) h (vK h ci q (bR o' K)) := by
  subst hn
  unfold vK
  cases q with
  | none => exact ev_no
  | some b =>
  dsimp only
  split
  case isFalse => exact ev_no
  rename_i hk
  unfold bR
  cases ho : o' with
  | none => exact ev_no
  | some y =>
    have hm := hcal y ho
    exact ev_callE (x := cvR y) ⟨hm.1, hm.2.1⟩ (fun hS hLs hH hcl hsl => ⟨_, ev_runV (As := [v1]) (k := kk) hS hLs hH hw hk hd' (fun v hv => by simp only [List.mem_cons, List.not_mem_nil, or_false] at hv; rcases hv with rfl <;> assumption) rfl hlen rfl (hcal y ho) rfl hsm hj hd hcl hsl⟩) (k1 y.1 y.2)
theorem ev_cv1V (nx : Nat) {ci : Nat} {q : Option Nat} {v1 : Value} {o' : Option (ev_hs)} {K : ev_hs → Option α} (hd : decode (mB M) pc = .ok (.invokevirtual ix, 3)) (hw : ev_CV (mY M).cls ix ci M' 1) (hd' : d' + 1 ≤ d) (hlen : 2 ≤ mL M') (h1 : v1.category = 1) (hsm : ev_sm st j) (hj : j ≤ 8) (hn : nx = pc + 3) (hcal : EvO E M' d' cvV 0 (some (va_rf q) :: some v1 :: List.replicate kk none) [] h o') (k1 : ∀ g, EvO E M d cv nx lo st g (K g)) : EvO E M d cv pc lo (v1 :: va_rf q :: st) h (vK h ci q (bV o' K)) := by
  subst hn
  unfold vK
  cases q with
  | none => exact ev_no
  | some b =>
  dsimp only
  split
  case isFalse => exact ev_no
  rename_i hk
  unfold bV
  cases ho : o' with
  | none => exact ev_no
  | some y =>
    have hm := hcal y ho
    exact ev_callE (x := cvV y) ⟨hm.1, hm.2.1⟩ (fun hS hLs hH hcl hsl => ⟨_, ev_runV (As := [v1]) (k := kk) hS hLs hH hw hk hd' (fun v hv => by simp only [List.mem_cons, List.not_mem_nil, or_false] at hv; rcases hv with rfl <;> assumption) rfl hlen rfl (hcal y ho) rfl hsm hj hd hcl hsl⟩) (k1 y)
theorem ev_cv2I (nx : Nat) {ci : Nat} {q : Option Nat} {v1 v2 : Value} {o' : Option (Int × ev_hs)} {K : Int → ev_hs → Option α} (hd : decode (mB M) pc = .ok (.invokevirtual ix, 3)) (hw : ev_CV (mY M).cls ix ci M' 2) (hd' : d' + 1 ≤ d) (hlen : 3 ≤ mL M') (h1 : v1.category = 1) (h2 : v2.category = 1) (hsm : ev_sm st j) (hj : j ≤ 8) (hn : nx = pc + 3) (hcal : EvO E M' d' cvI 0 (some (va_rf q) :: some v1 :: some v2 :: List.replicate kk none) [] h o') (k1 : ∀ z g, EvO E M d cv nx lo (eI z :: st) g (K z g)) : EvO E M d cv pc lo (v2 :: v1 :: va_rf q :: st) h (vK h ci q (bI o' K)) := by
  subst hn
  unfold vK
  cases q with
  | none => exact ev_no
  | some b =>
  dsimp only
  split
  case isFalse => exact ev_no
  rename_i hk
  unfold bI
  cases ho : o' with
  | none => exact ev_no
  | some y =>
    have hm := hcal y ho
    exact ev_callE (x := cvI y) ⟨hm.1, hm.2.1⟩ (fun hS hLs hH hcl hsl => ⟨_, ev_runV (As := [v1, v2]) (k := kk) hS hLs hH hw hk hd' (fun v hv => by simp only [List.mem_cons, List.not_mem_nil, or_false] at hv; rcases hv with rfl | rfl <;> assumption) rfl hlen rfl (hcal y ho) rfl hsm hj hd hcl hsl⟩) (k1 y.1 y.2)
theorem ev_cv2R (nx : Nat) {ci : Nat} {q : Option Nat} {v1 v2 : Value} {o' : Option (Option Nat × ev_hs)} {K : Option Nat → ev_hs → Option α} (hd : decode (mB M) pc = .ok (.invokevirtual ix, 3)) (hw : ev_CV (mY M).cls ix ci M' 2) (hd' : d' + 1 ≤ d) (hlen : 3 ≤ mL M') (h1 : v1.category = 1) (h2 : v2.category = 1) (hsm : ev_sm st j) (hj : j ≤ 8) (hn : nx = pc + 3) (hcal : EvO E M' d' cvR 0 (some (va_rf q) :: some v1 :: some v2 :: List.replicate kk none) [] h o') (k1 : ∀ z g, EvO E M d cv nx lo (va_rf z :: st) g (K z g)) : EvO E M d cv pc lo (v2 :: v1 :: va_rf q :: st) h (vK h ci q (bR o' K)) := by
  subst hn
  unfold vK
  cases q with
  | none => exact ev_no
  | some b =>
  dsimp only
  split
  case isFalse => exact ev_no
  rename_i hk
  unfold bR
  cases ho : o' with
  | none => exact ev_no
  | some y =>
    have hm := hcal y ho
    exact ev_callE (x := cvR y) ⟨hm.1, hm.2.1⟩ (fun hS hLs hH hcl hsl => ⟨_, ev_runV (As := [v1, v2]) (k := kk) hS hLs hH hw hk hd' (fun v hv => by simp only [List.mem_cons, List.not_mem_nil, or_false] at hv; rcases hv with rfl | rfl <;> assumption) rfl hlen rfl (hcal y ho) rfl hsm hj hd hcl hsl⟩) (k1 y.1 y.2)
theorem ev_cv2V (nx : Nat) {ci : Nat} {q : Option Nat} {v1 v2 : Value} {o' : Option (ev_hs)} {K : ev_hs → Option α} (hd : decode (mB M) pc = .ok (.invokevirtual ix, 3)) (hw : ev_CV (mY M).cls ix ci M' 2) (hd' : d' + 1 ≤ d) (hlen : 3 ≤ mL M') (h1 : v1.category = 1) (h2 : v2.category = 1) (hsm : ev_sm st j) (hj : j ≤ 8) (hn : nx = pc + 3) (hcal : EvO E M' d' cvV 0 (some (va_rf q) :: some v1 :: some v2 :: List.replicate kk none) [] h o') (k1 : ∀ g, EvO E M d cv nx lo st g (K g)) : EvO E M d cv pc lo (v2 :: v1 :: va_rf q :: st) h (vK h ci q (bV o' K)) := by
  subst hn
  unfold vK
  cases q with
  | none => exact ev_no
  | some b =>
  dsimp only
  split
  case isFalse => exact ev_no
  rename_i hk
  unfold bV
  cases ho : o' with
  | none => exact ev_no
  | some y =>
    have hm := hcal y ho
    exact ev_callE (x := cvV y) ⟨hm.1, hm.2.1⟩ (fun hS hLs hH hcl hsl => ⟨_, ev_runV (As := [v1, v2]) (k := kk) hS hLs hH hw hk hd' (fun v hv => by simp only [List.mem_cons, List.not_mem_nil, or_false] at hv; rcases hv with rfl | rfl <;> assumption) rfl hlen rfl (hcal y ho) rfl hsm hj hd hcl hsl⟩) (k1 y)
theorem ev_cv3I (nx : Nat) {ci : Nat} {q : Option Nat} {v1 v2 v3 : Value} {o' : Option (Int × ev_hs)} {K : Int → ev_hs → Option α} (hd : decode (mB M) pc = .ok (.invokevirtual ix, 3)) (hw : ev_CV (mY M).cls ix ci M' 3) (hd' : d' + 1 ≤ d) (hlen : 4 ≤ mL M') (h1 : v1.category = 1) (h2 : v2.category = 1) (h3 : v3.category = 1) (hsm : ev_sm st j) (hj : j ≤ 8) (hn : nx = pc + 3) (hcal : EvO E M' d' cvI 0 (some (va_rf q) :: some v1 :: some v2 :: some v3 :: List.replicate kk none) [] h o') (k1 : ∀ z g, EvO E M d cv nx lo (eI z :: st) g (K z g)) : EvO E M d cv pc lo (v3 :: v2 :: v1 :: va_rf q :: st) h (vK h ci q (bI o' K)) := by
  subst hn
  unfold vK
  cases q with
  | none => exact ev_no
  | some b =>
  dsimp only
  split
  case isFalse => exact ev_no
  rename_i hk
  unfold bI
  cases ho : o' with
  | none => exact ev_no
  | some y =>
    have hm := hcal y ho
    exact ev_callE (x := cvI y) ⟨hm.1, hm.2.1⟩ (fun hS hLs hH hcl hsl => ⟨_, ev_runV (As := [v1, v2, v3]) (k := kk) hS hLs hH hw hk hd' (fun v hv => by simp only [List.mem_cons, List.not_mem_nil, or_false] at hv; rcases hv with rfl | rfl | rfl <;> assumption) rfl hlen rfl (hcal y ho) rfl hsm hj hd hcl hsl⟩) (k1 y.1 y.2)
theorem ev_cv3R (nx : Nat) {ci : Nat} {q : Option Nat} {v1 v2 v3 : Value} {o' : Option (Option Nat × ev_hs)} {K : Option Nat → ev_hs → Option α} (hd : decode (mB M) pc = .ok (.invokevirtual ix, 3)) (hw : ev_CV (mY M).cls ix ci M' 3) (hd' : d' + 1 ≤ d) (hlen : 4 ≤ mL M') (h1 : v1.category = 1) (h2 : v2.category = 1) (h3 : v3.category = 1) (hsm : ev_sm st j) (hj : j ≤ 8) (hn : nx = pc + 3) (hcal : EvO E M' d' cvR 0 (some (va_rf q) :: some v1 :: some v2 :: some v3 :: List.replicate kk none) [] h o') (k1 : ∀ z g, EvO E M d cv nx lo (va_rf z :: st) g (K z g)) : EvO E M d cv pc lo (v3 :: v2 :: v1 :: va_rf q :: st) h (vK h ci q (bR o' K)) := by
  subst hn
  unfold vK
  cases q with
  | none => exact ev_no
  | some b =>
  dsimp only
  split
  case isFalse => exact ev_no
  rename_i hk
  unfold bR
  cases ho : o' with
  | none => exact ev_no
  | some y =>
    have hm := hcal y ho
    exact ev_callE (x := cvR y) ⟨hm.1, hm.2.1⟩ (fun hS hLs hH hcl hsl => ⟨_, ev_runV (As := [v1, v2, v3]) (k := kk) hS hLs hH hw hk hd' (fun v hv => by simp only [List.mem_cons, List.not_mem_nil, or_false] at hv; rcases hv with rfl | rfl | rfl <;> assumption) rfl hlen rfl (hcal y ho) rfl hsm hj hd hcl hsl⟩) (k1 y.1 y.2)
theorem ev_cv3V (nx : Nat) {ci : Nat} {q : Option Nat} {v1 v2 v3 : Value} {o' : Option (ev_hs)} {K : ev_hs → Option α} (hd : decode (mB M) pc = .ok (.invokevirtual ix, 3)) (hw : ev_CV (mY M).cls ix ci M' 3) (hd' : d' + 1 ≤ d) (hlen : 4 ≤ mL M') (h1 : v1.category = 1) (h2 : v2.category = 1) (h3 : v3.category = 1) (hsm : ev_sm st j) (hj : j ≤ 8) (hn : nx = pc + 3) (hcal : EvO E M' d' cvV 0 (some (va_rf q) :: some v1 :: some v2 :: some v3 :: List.replicate kk none) [] h o') (k1 : ∀ g, EvO E M d cv nx lo st g (K g)) : EvO E M d cv pc lo (v3 :: v2 :: v1 :: va_rf q :: st) h (vK h ci q (bV o' K)) := by
  subst hn
  unfold vK
  cases q with
  | none => exact ev_no
  | some b =>
  dsimp only
  split
  case isFalse => exact ev_no
  rename_i hk
  unfold bV
  cases ho : o' with
  | none => exact ev_no
  | some y =>
    have hm := hcal y ho
    exact ev_callE (x := cvV y) ⟨hm.1, hm.2.1⟩ (fun hS hLs hH hcl hsl => ⟨_, ev_runV (As := [v1, v2, v3]) (k := kk) hS hLs hH hw hk hd' (fun v hv => by simp only [List.mem_cons, List.not_mem_nil, or_false] at hv; rcases hv with rfl | rfl | rfl <;> assumption) rfl hlen rfl (hcal y ho) rfl hsm hj hd hcl hsl⟩) (k1 y)
theorem ev_cv4I (nx : Nat) {ci : Nat} {q : Option Nat} {v1 v2 v3 v4 : Value} {o' : Option (Int × ev_hs)} {K : Int → ev_hs → Option α} (hd : decode (mB M) pc = .ok (.invokevirtual ix, 3)) (hw : ev_CV (mY M).cls ix ci M' 4) (hd' : d' + 1 ≤ d) (hlen : 5 ≤ mL M') (h1 : v1.category = 1) (h2 : v2.category = 1) (h3 : v3.category = 1) (h4 : v4.category = 1) (hsm : ev_sm st j) (hj : j ≤ 8) (hn : nx = pc + 3) (hcal : EvO E M' d' cvI 0 (some (va_rf q) :: some v1 :: some v2 :: some v3 :: some v4 :: List.replicate kk none) [] h o') (k1 : ∀ z g, EvO E M d cv nx lo (eI z :: st) g (K z g)) : EvO E M d cv pc lo (v4 :: v3 :: v2 :: v1 :: va_rf q :: st) h (vK h ci q (bI o' K)) := by
  subst hn
  unfold vK
  cases q with
  | none => exact ev_no
  | some b =>
  dsimp only
  split
  case isFalse => exact ev_no
  rename_i hk
  unfold bI
  cases ho : o' with
  | none => exact ev_no
  | some y =>
    have hm := hcal y ho
    exact ev_callE (x := cvI y) ⟨hm.1, hm.2.1⟩ (fun hS hLs hH hcl hsl => ⟨_, ev_runV (As := [v1, v2, v3, v4]) (k := kk) hS hLs hH hw hk hd' (fun v hv => by simp only [List.mem_cons, List.not_mem_nil, or_false] at hv; rcases hv with rfl | rfl | rfl | rfl <;> assumption) rfl hlen rfl (hcal y ho) rfl hsm hj hd hcl hsl⟩) (k1 y.1 y.2)
theorem ev_cv5I (nx : Nat) {ci : Nat} {q : Option Nat} {v1 v2 v3 v4 v5 : Value} {o' : Option (Int × ev_hs)} {K : Int → ev_hs → Option α} (hd : decode (mB M) pc = .ok (.invokevirtual ix, 3)) (hw : ev_CV (mY M).cls ix ci M' 5) (hd' : d' + 1 ≤ d) (hlen : 6 ≤ mL M') (h1 : v1.category = 1) (h2 : v2.category = 1) (h3 : v3.category = 1) (h4 : v4.category = 1) (h5 : v5.category = 1) (hsm : ev_sm st j) (hj : j ≤ 8) (hn : nx = pc + 3) (hcal : EvO E M' d' cvI 0 (some (va_rf q) :: some v1 :: some v2 :: some v3 :: some v4 :: some v5 :: List.replicate kk none) [] h o') (k1 : ∀ z g, EvO E M d cv nx lo (eI z :: st) g (K z g)) : EvO E M d cv pc lo (v5 :: v4 :: v3 :: v2 :: v1 :: va_rf q :: st) h (vK h ci q (bI o' K)) := by
  subst hn
  unfold vK
  cases q with
  | none => exact ev_no
  | some b =>
  dsimp only
  split
  case isFalse => exact ev_no
  rename_i hk
  unfold bI
  cases ho : o' with
  | none => exact ev_no
  | some y =>
    have hm := hcal y ho
    exact ev_callE (x := cvI y) ⟨hm.1, hm.2.1⟩ (fun hS hLs hH hcl hsl => ⟨_, ev_runV (As := [v1, v2, v3, v4, v5]) (k := kk) hS hLs hH hw hk hd' (fun v hv => by simp only [List.mem_cons, List.not_mem_nil, or_false] at hv; rcases hv with rfl | rfl | rfl | rfl | rfl <;> assumption) rfl hlen rfl (hcal y ho) rfl hsm hj hd hcl hsl⟩) (k1 y.1 y.2)
theorem ev_cv7V (nx : Nat) {ci : Nat} {q : Option Nat} {v1 v2 v3 v4 v5 v6 v7 : Value} {o' : Option (ev_hs)} {K : ev_hs → Option α} (hd : decode (mB M) pc = .ok (.invokevirtual ix, 3)) (hw : ev_CV (mY M).cls ix ci M' 7) (hd' : d' + 1 ≤ d) (hlen : 8 ≤ mL M') (h1 : v1.category = 1) (h2 : v2.category = 1) (h3 : v3.category = 1) (h4 : v4.category = 1) (h5 : v5.category = 1) (h6 : v6.category = 1) (h7 : v7.category = 1) (hsm : ev_sm st j) (hj : j ≤ 8) (hn : nx = pc + 3) (hcal : EvO E M' d' cvV 0 (some (va_rf q) :: some v1 :: some v2 :: some v3 :: some v4 :: some v5 :: some v6 :: some v7 :: List.replicate kk none) [] h o') (k1 : ∀ g, EvO E M d cv nx lo st g (K g)) : EvO E M d cv pc lo (v7 :: v6 :: v5 :: v4 :: v3 :: v2 :: v1 :: va_rf q :: st) h (vK h ci q (bV o' K)) := by
  subst hn
  unfold vK
  cases q with
  | none => exact ev_no
  | some b =>
  dsimp only
  split
  case isFalse => exact ev_no
  rename_i hk
  unfold bV
  cases ho : o' with
  | none => exact ev_no
  | some y =>
    have hm := hcal y ho
    exact ev_callE (x := cvV y) ⟨hm.1, hm.2.1⟩ (fun hS hLs hH hcl hsl => ⟨_, ev_runV (As := [v1, v2, v3, v4, v5, v6, v7]) (k := kk) hS hLs hH hw hk hd' (fun v hv => by simp only [List.mem_cons, List.not_mem_nil, or_false] at hv; rcases hv with rfl | rfl | rfl | rfl | rfl | rfl | rfl <;> assumption) rfl hlen rfl (hcal y ho) rfl hsm hj hd hcl hsl⟩) (k1 y)
end Calls
end
