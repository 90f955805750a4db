abbrev M_Lw_cell : ev_M := (⟨"MeshLinesLaw", "cell", "([II)I"⟩, method_2_code, 2, (Option.some Jvm.ClassFile.FieldType.int))
abbrev M_Ma_min : ev_M := (⟨"java/lang/Math", "min", "(II)I"⟩, prog_17_method_69_code, 2, (Option.some Jvm.ClassFile.FieldType.int))
abbrev M_Ma_max : ev_M := (⟨"java/lang/Math", "max", "(II)I"⟩, prog_17_method_65_code, 2, (Option.some Jvm.ClassFile.FieldType.int))
abbrev M_ML_nearest : ev_M := (⟨"MeshLines", "nearest", "(III)I"⟩, prog_1_method_12_code, 3, (Option.some Jvm.ClassFile.FieldType.int))
abbrev M_Ac_init : ev_M := (⟨"java/util/AbstractCollection", "<init>", "()V"⟩, prog_19_method_1_code, 1, (Option.none : Option Jvm.ClassFile.FieldType))
abbrev M_Al_init : ev_M := (⟨"java/util/AbstractList", "<init>", "()V"⟩, prog_20_method_1_code, 1, (Option.none : Option Jvm.ClassFile.FieldType))
abbrev M_AL_init : ev_M := (⟨"java/util/ArrayList", "<init>", "()V"⟩, prog_21_method_2_code, 1, (Option.none : Option Jvm.ClassFile.FieldType))
abbrev M_FB_init : ev_M := (⟨"MeshLines$FlitBuffer", "<init>", "(I)V"⟩, prog_5_method_1_code, 2, (Option.none : Option Jvm.ClassFile.FieldType))
abbrev M_La_init : ev_M := (⟨"MeshLines$Lane", "<init>", "(II)V"⟩, prog_7_method_1_code, 4, (Option.none : Option Jvm.ClassFile.FieldType))
abbrev M_Me_init : ev_M := (⟨"MeshLines$Mesh", "<init>", "(II)V"⟩, prog_8_method_1_code, 4, (Option.none : Option Jvm.ClassFile.FieldType))
abbrev M_ML_homeOf : ev_M := (⟨"MeshLines", "homeOf", "(I)I"⟩, prog_1_method_13_code, 1, (Option.some Jvm.ClassFile.FieldType.int))
abbrev M_Ho_init : ev_M := (⟨"MeshLines$Home", "<init>", "(ILMeshLines$Mesh;)V"⟩, prog_6_method_1_code, 3, (Option.none : Option Jvm.ClassFile.FieldType))
abbrev M_Ca_init : ev_M := (⟨"MeshLines$Cache", "<init>", "(ILMeshLines$Mesh;)V"⟩, prog_2_method_1_code, 3, (Option.none : Option Jvm.ClassFile.FieldType))
abbrev M_Co_init : ev_M := (⟨"MeshLines$Core", "<init>", "(LMeshLines$Cache;)V"⟩, prog_3_method_1_code, 2, (Option.none : Option Jvm.ClassFile.FieldType))
abbrev M_No_init : ev_M := (⟨"MeshLines$Node", "<init>", "(ILMeshLines$Mesh;[LMeshLines$Home;)V"⟩, prog_9_method_1_code, 4, (Option.none : Option Jvm.ClassFile.FieldType))
abbrev M_ML_init : ev_M := (⟨"MeshLines", "<init>", "(II)V"⟩, prog_1_method_1_code, 4, (Option.none : Option Jvm.ClassFile.FieldType))
abbrev M_Mo_init : ev_M := (⟨"MeshLinesModel", "<init>", "(II)V"⟩, prog_12_method_1_code, 4, (Option.none : Option Jvm.ClassFile.FieldType))
abbrev M_ML_isBelow : ev_M := (⟨"MeshLines", "isBelow", "(II)Z"⟩, prog_1_method_11_code, 2, (Option.some Jvm.ClassFile.FieldType.boolean))
abbrev M_Co_append : ev_M := (⟨"MeshLines$Core", "append", "(IIII)I"⟩, prog_3_method_2_code, 5, (Option.some Jvm.ClassFile.FieldType.int))
abbrev M_ML_operation : ev_M := (⟨"MeshLines", "operation", "(IIIII)I"⟩, prog_1_method_2_code, 6, (Option.some Jvm.ClassFile.FieldType.int))
abbrev M_Mo_isNode : ev_M := (⟨"MeshLinesModel", "isNode", "(I)Z"⟩, prog_12_method_2_code, 1, (Option.some Jvm.ClassFile.FieldType.boolean))
abbrev M_Mo_isLine : ev_M := (⟨"MeshLinesModel", "isLine", "(I)Z"⟩, prog_12_method_3_code, 1, (Option.some Jvm.ClassFile.FieldType.boolean))
abbrev M_Mo_operation : ev_M := (⟨"MeshLinesModel", "operation", "(IIIII)I"⟩, prog_12_method_32_code, 7, (Option.some Jvm.ClassFile.FieldType.int))
abbrev M_AL_isEmpty : ev_M := (⟨"java/util/ArrayList", "isEmpty", "()Z"⟩, prog_21_method_9_code, 1, (Option.some Jvm.ClassFile.FieldType.boolean))
abbrev M_FB_hasRoom : ev_M := (⟨"MeshLines$FlitBuffer", "hasRoom", "()Z"⟩, prog_5_method_2_code, 1, (Option.some Jvm.ClassFile.FieldType.boolean))
abbrev M_Pr_checkIndex : ev_M := (⟨"jdk/internal/util/Preconditions", "checkIndex", "(IILjava/util/function/BiFunction;)I"⟩, prog_29_method_11_code, 3, (Option.some Jvm.ClassFile.FieldType.int))
abbrev M_Os_checkIndex : ev_M := (⟨"java/util/Objects", "checkIndex", "(II)I"⟩, prog_25_method_17_code, 2, (Option.some Jvm.ClassFile.FieldType.int))
abbrev M_AL_elementData : ev_M := (⟨"java/util/ArrayList", "elementData", "(I)Ljava/lang/Object;"⟩, prog_21_method_18_code, 2, (Option.some (Jvm.ClassFile.FieldType.object "java/lang/Object")))
abbrev M_AL_get : ev_M := (⟨"java/util/ArrayList", "get", "(I)Ljava/lang/Object;"⟩, prog_21_method_20_code, 2, (Option.some (Jvm.ClassFile.FieldType.object "java/lang/Object")))
abbrev M_Fl_init : ev_M := (⟨"MeshLines$Flit", "<init>", "(LMeshLines$Packet;I)V"⟩, prog_4_method_1_code, 3, (Option.none : Option Jvm.ClassFile.FieldType))
abbrev M_FB_put : ev_M := (⟨"MeshLines$FlitBuffer", "put", "(LMeshLines$Flit;I)V"⟩, prog_5_method_4_code, 3, (Option.none : Option Jvm.ClassFile.FieldType))
abbrev M_AL_fastRemove : ev_M := (⟨"java/util/ArrayList", "fastRemove", "([Ljava/lang/Object;I)V"⟩, prog_21_method_39_code, 4, (Option.none : Option Jvm.ClassFile.FieldType))
abbrev M_AL_remove : ev_M := (⟨"java/util/ArrayList", "remove", "(I)Ljava/lang/Object;"⟩, prog_21_method_29_code, 4, (Option.some (Jvm.ClassFile.FieldType.object "java/lang/Object")))
abbrev M_La_enterFlit : ev_M := (⟨"MeshLines$Lane", "enterFlit", "(I)V"⟩, prog_7_method_2_code, 3, (Option.none : Option Jvm.ClassFile.FieldType))
abbrev M_Me_enterFlits : ev_M := (⟨"MeshLines$Mesh", "enterFlits", "(I)V"⟩, prog_8_method_4_code, 3, (Option.none : Option Jvm.ClassFile.FieldType))
abbrev M_Me_laneOf : ev_M := (⟨"MeshLines$Mesh", "laneOf", "(II)LMeshLines$Lane;"⟩, prog_8_method_2_code, 3, (Option.some (Jvm.ClassFile.FieldType.object "MeshLines$Lane")))
abbrev M_FB_front : ev_M := (⟨"MeshLines$FlitBuffer", "front", "()LMeshLines$Flit;"⟩, prog_5_method_3_code, 1, (Option.some (Jvm.ClassFile.FieldType.object "MeshLines$Flit")))
abbrev M_La_wayTo : ev_M := (⟨"MeshLines$Lane", "wayTo", "(I)I"⟩, prog_7_method_4_code, 4, (Option.some Jvm.ClassFile.FieldType.int))
abbrev M_La_portFor : ev_M := (⟨"MeshLines$Lane", "portFor", "(I)I"⟩, prog_7_method_3_code, 5, (Option.some Jvm.ClassFile.FieldType.int))
abbrev M_As_hugeLength : ev_M := (⟨"jdk/internal/util/ArraysSupport", "hugeLength", "(II)I"⟩, prog_28_method_28_code, 3, (Option.some Jvm.ClassFile.FieldType.int))
abbrev M_As_newLength : ev_M := (⟨"jdk/internal/util/ArraysSupport", "newLength", "(III)I"⟩, prog_28_method_27_code, 4, (Option.some Jvm.ClassFile.FieldType.int))
abbrev M_Ar_copyOf3 : ev_M := (⟨"java/util/Arrays", "copyOf", "([Ljava/lang/Object;ILjava/lang/Class;)[Ljava/lang/Object;"⟩, prog_22_method_120_code, 4, (Option.some (Jvm.ClassFile.FieldType.array (Jvm.ClassFile.FieldType.object "java/lang/Object"))))
abbrev M_Ar_copyOf2 : ev_M := (⟨"java/util/Arrays", "copyOf", "([Ljava/lang/Object;I)[Ljava/lang/Object;"⟩, prog_22_method_119_code, 2, (Option.some (Jvm.ClassFile.FieldType.array (Jvm.ClassFile.FieldType.object "java/lang/Object"))))
abbrev M_AL_grow1 : ev_M := (⟨"java/util/ArrayList", "grow", "(I)[Ljava/lang/Object;"⟩, prog_21_method_6_code, 4, (Option.some (Jvm.ClassFile.FieldType.array (Jvm.ClassFile.FieldType.object "java/lang/Object"))))
abbrev M_AL_grow0 : ev_M := (⟨"java/util/ArrayList", "grow", "()[Ljava/lang/Object;"⟩, prog_21_method_7_code, 1, (Option.some (Jvm.ClassFile.FieldType.array (Jvm.ClassFile.FieldType.object "java/lang/Object"))))
abbrev M_AL_add3 : ev_M := (⟨"java/util/ArrayList", "add", "(Ljava/lang/Object;[Ljava/lang/Object;I)V"⟩, prog_21_method_24_code, 4, (Option.none : Option Jvm.ClassFile.FieldType))
abbrev M_AL_add1 : ev_M := (⟨"java/util/ArrayList", "add", "(Ljava/lang/Object;)Z"⟩, prog_21_method_25_code, 2, (Option.some Jvm.ClassFile.FieldType.boolean))
abbrev M_Me_leaveMesh : ev_M := (⟨"MeshLines$Mesh", "leaveMesh", "(LMeshLines$Flit;LMeshLines$Lane;)V"⟩, prog_8_method_8_code, 3, (Option.none : Option Jvm.ClassFile.FieldType))
abbrev M_Me_bufferBeyond : ev_M := (⟨"MeshLines$Mesh", "bufferBeyond", "(III)LMeshLines$FlitBuffer;"⟩, prog_8_method_9_code, 4, (Option.some (Jvm.ClassFile.FieldType.object "MeshLines$FlitBuffer")))
abbrev M_FB_dropFront : ev_M := (⟨"MeshLines$FlitBuffer", "dropFront", "()V"⟩, prog_5_method_5_code, 2, (Option.none : Option Jvm.ClassFile.FieldType))
abbrev M_La_dropFront : ev_M := (⟨"MeshLines$Lane", "dropFront", "(II)V"⟩, prog_7_method_5_code, 4, (Option.none : Option Jvm.ClassFile.FieldType))
abbrev M_Me_moveFlitOf : ev_M := (⟨"MeshLines$Mesh", "moveFlitOf", "(IIII)Z"⟩, prog_8_method_7_code, 9, (Option.some Jvm.ClassFile.FieldType.boolean))
abbrev M_Me_moveOneFlit : ev_M := (⟨"MeshLines$Mesh", "moveOneFlit", "(III)V"⟩, prog_8_method_6_code, 6, (Option.none : Option Jvm.ClassFile.FieldType))
abbrev M_Me_moveFlits : ev_M := (⟨"MeshLines$Mesh", "moveFlits", "(I)V"⟩, prog_8_method_5_code, 4, (Option.none : Option Jvm.ClassFile.FieldType))
abbrev M_AL_size : ev_M := (⟨"java/util/ArrayList", "size", "()I"⟩, prog_21_method_8_code, 1, (Option.some Jvm.ClassFile.FieldType.int))
abbrev M_Pa_isForHome : ev_M := (⟨"MeshLines$Packet", "isForHome", "()Z"⟩, prog_10_method_3_code, 1, (Option.some Jvm.ClassFile.FieldType.boolean))
abbrev M_Ho_stalls : ev_M := (⟨"MeshLines$Home", "stalls", "(LMeshLines$Packet;)Z"⟩, prog_6_method_2_code, 2, (Option.some Jvm.ClassFile.FieldType.boolean))
abbrev M_Ca_stalls : ev_M := (⟨"MeshLines$Cache", "stalls", "(LMeshLines$Packet;)Z"⟩, prog_2_method_2_code, 3, (Option.some Jvm.ClassFile.FieldType.boolean))
abbrev M_No_stalls : ev_M := (⟨"MeshLines$Node", "stalls", "(LMeshLines$Packet;)Z"⟩, prog_9_method_4_code, 2, (Option.some Jvm.ClassFile.FieldType.boolean))
abbrev M_No_firstToTake : ev_M := (⟨"MeshLines$Node", "firstToTake", "(Ljava/util/ArrayList;)I"⟩, prog_9_method_3_code, 7, (Option.some Jvm.ClassFile.FieldType.int))
abbrev M_Pa_init : ev_M := (⟨"MeshLines$Packet", "<init>", "(IIIIIII)V"⟩, prog_10_method_1_code, 9, (Option.none : Option Jvm.ClassFile.FieldType))
abbrev M_Pa_channel : ev_M := (⟨"MeshLines$Packet", "channel", "()I"⟩, prog_10_method_2_code, 1, (Option.some Jvm.ClassFile.FieldType.int))
abbrev M_Me_send : ev_M := (⟨"MeshLines$Mesh", "send", "(IIIIIII)V"⟩, prog_8_method_3_code, 9, (Option.none : Option Jvm.ClassFile.FieldType))
abbrev M_Ho_takeGets : ev_M := (⟨"MeshLines$Home", "takeGets", "(I)V"⟩, prog_6_method_4_code, 2, (Option.none : Option Jvm.ClassFile.FieldType))
abbrev M_In_bitCount : ev_M := (⟨"java/lang/Integer", "bitCount", "(I)I"⟩, prog_15_method_49_code, 1, (Option.some Jvm.ClassFile.FieldType.int))
abbrev M_Ho_takeGetm : ev_M := (⟨"MeshLines$Home", "takeGetm", "(I)V"⟩, prog_6_method_5_code, 4, (Option.none : Option Jvm.ClassFile.FieldType))
abbrev M_Ho_dropSharer : ev_M := (⟨"MeshLines$Home", "dropSharer", "(I)V"⟩, prog_6_method_8_code, 2, (Option.none : Option Jvm.ClassFile.FieldType))
abbrev M_Ho_takePuts : ev_M := (⟨"MeshLines$Home", "takePuts", "(I)V"⟩, prog_6_method_6_code, 2, (Option.none : Option Jvm.ClassFile.FieldType))
abbrev M_Ho_takePutm : ev_M := (⟨"MeshLines$Home", "takePutm", "(II)V"⟩, prog_6_method_7_code, 3, (Option.none : Option Jvm.ClassFile.FieldType))
abbrev M_Ho_take : ev_M := (⟨"MeshLines$Home", "take", "(LMeshLines$Packet;)V"⟩, prog_6_method_3_code, 2, (Option.none : Option Jvm.ClassFile.FieldType))
abbrev M_Ca_takeData : ev_M := (⟨"MeshLines$Cache", "takeData", "(LMeshLines$Packet;)Z"⟩, prog_2_method_4_code, 4, (Option.some Jvm.ClassFile.FieldType.boolean))
abbrev M_Ca_takeAck : ev_M := (⟨"MeshLines$Cache", "takeAck", "(I)Z"⟩, prog_2_method_5_code, 3, (Option.some Jvm.ClassFile.FieldType.boolean))
abbrev M_Ca_become : ev_M := (⟨"MeshLines$Cache", "become", "(II)V"⟩, prog_2_method_7_code, 3, (Option.none : Option Jvm.ClassFile.FieldType))
abbrev M_Ca_takeInv : ev_M := (⟨"MeshLines$Cache", "takeInv", "(LMeshLines$Packet;)V"⟩, prog_2_method_6_code, 3, (Option.none : Option Jvm.ClassFile.FieldType))
abbrev M_Ca_giveData : ev_M := (⟨"MeshLines$Cache", "giveData", "(III)V"⟩, prog_2_method_8_code, 4, (Option.none : Option Jvm.ClassFile.FieldType))
abbrev M_Ca_take : ev_M := (⟨"MeshLines$Cache", "take", "(LMeshLines$Packet;)Z"⟩, prog_2_method_3_code, 3, (Option.some Jvm.ClassFile.FieldType.boolean))
abbrev M_Co_finishPresent : ev_M := (⟨"MeshLines$Core", "finishPresent", "(I)V"⟩, prog_3_method_5_code, 4, (Option.none : Option Jvm.ClassFile.FieldType))
abbrev M_No_take : ev_M := (⟨"MeshLines$Node", "take", "(LMeshLines$Packet;I)V"⟩, prog_9_method_5_code, 3, (Option.none : Option Jvm.ClassFile.FieldType))
abbrev M_No_takePackets : ev_M := (⟨"MeshLines$Node", "takePackets", "(I)V"⟩, prog_9_method_2_code, 5, (Option.none : Option Jvm.ClassFile.FieldType))
abbrev M_Ca_ask : ev_M := (⟨"MeshLines$Cache", "ask", "(III)V"⟩, prog_2_method_10_code, 4, (Option.none : Option Jvm.ClassFile.FieldType))
abbrev M_Ca_hasRoomFor : ev_M := (⟨"MeshLines$Cache", "hasRoomFor", "(I)Z"⟩, prog_2_method_9_code, 4, (Option.some Jvm.ClassFile.FieldType.boolean))
abbrev M_Ca_makeRoomFor : ev_M := (⟨"MeshLines$Cache", "makeRoomFor", "(I)V"⟩, prog_2_method_11_code, 5, (Option.none : Option Jvm.ClassFile.FieldType))
abbrev M_Co_fetch : ev_M := (⟨"MeshLines$Core", "fetch", "(IZ)V"⟩, prog_3_method_4_code, 3, (Option.none : Option Jvm.ClassFile.FieldType))
abbrev M_Co_act : ev_M := (⟨"MeshLines$Core", "act", "(I)V"⟩, prog_3_method_3_code, 5, (Option.none : Option Jvm.ClassFile.FieldType))
abbrev M_ML_run : ev_M := (⟨"MeshLines", "run", "(I)I"⟩, prog_1_method_3_code, 4, (Option.some Jvm.ClassFile.FieldType.int))
abbrev M_Mo_append : ev_M := (⟨"MeshLinesModel", "append", "(III)V"⟩, prog_12_method_9_code, 5, (Option.none : Option Jvm.ClassFile.FieldType))
abbrev M_Mo_sizeOf : ev_M := (⟨"MeshLinesModel", "sizeOf", "(I)I"⟩, prog_12_method_5_code, 2, (Option.some Jvm.ClassFile.FieldType.int))
abbrev M_Mo_inject : ev_M := (⟨"MeshLinesModel", "inject", "(II)V"⟩, prog_12_method_11_code, 7, (Option.none : Option Jvm.ClassFile.FieldType))
abbrev M_Mo_way : ev_M := (⟨"MeshLinesModel", "way", "(II)I"⟩, prog_12_method_7_code, 4, (Option.some Jvm.ClassFile.FieldType.int))
abbrev M_Mo_served : ev_M := (⟨"MeshLinesModel", "served", "(III)I"⟩, prog_12_method_12_code, 9, (Option.some Jvm.ClassFile.FieldType.int))
abbrev M_Mo_neighbour : ev_M := (⟨"MeshLinesModel", "neighbour", "(II)I"⟩, prog_12_method_8_code, 2, (Option.some Jvm.ClassFile.FieldType.int))
abbrev M_Mo_removeFront : ev_M := (⟨"MeshLinesModel", "removeFront", "(I)V"⟩, prog_12_method_10_code, 3, (Option.none : Option Jvm.ClassFile.FieldType))
abbrev M_Mo_moves : ev_M := (⟨"MeshLinesModel", "moves", "(III)Z"⟩, prog_12_method_13_code, 14, (Option.some Jvm.ClassFile.FieldType.boolean))
abbrev M_Mo_isBehind : ev_M := (⟨"MeshLinesModel", "isBehind", "(II)Z"⟩, prog_12_method_26_code, 5, (Option.some Jvm.ClassFile.FieldType.boolean))
abbrev M_Mo_channelOf : ev_M := (⟨"MeshLinesModel", "channelOf", "(I)I"⟩, prog_12_method_4_code, 1, (Option.some Jvm.ClassFile.FieldType.int))
abbrev M_Mo_send : ev_M := (⟨"MeshLinesModel", "send", "(IIIIIII)V"⟩, prog_12_method_6_code, 10, (Option.none : Option Jvm.ClassFile.FieldType))
abbrev M_Mo_gets : ev_M := (⟨"MeshLinesModel", "gets", "(III)Z"⟩, prog_12_method_22_code, 4, (Option.some Jvm.ClassFile.FieldType.boolean))
abbrev M_Mo_getm : ev_M := (⟨"MeshLinesModel", "getm", "(III)Z"⟩, prog_12_method_23_code, 7, (Option.some Jvm.ClassFile.FieldType.boolean))
abbrev M_Mo_gone : ev_M := (⟨"MeshLinesModel", "gone", "(II)V"⟩, prog_12_method_21_code, 3, (Option.none : Option Jvm.ClassFile.FieldType))
abbrev M_Mo_putm : ev_M := (⟨"MeshLinesModel", "putm", "(III)V"⟩, prog_12_method_24_code, 4, (Option.none : Option Jvm.ClassFile.FieldType))
abbrev M_Mo_homeOf : ev_M := (⟨"MeshLinesModel", "homeOf", "(I)I"⟩, prog_12_method_14_code, 1, (Option.some Jvm.ClassFile.FieldType.int))
abbrev M_Mo_forward : ev_M := (⟨"MeshLinesModel", "forward", "(IIZ)Z"⟩, prog_12_method_18_code, 7, (Option.some Jvm.ClassFile.FieldType.boolean))
abbrev M_Mo_invalidate : ev_M := (⟨"MeshLinesModel", "invalidate", "(II)Z"⟩, prog_12_method_17_code, 6, (Option.some Jvm.ClassFile.FieldType.boolean))
abbrev M_Mo_finish : ev_M := (⟨"MeshLinesModel", "finish", "(II)V"⟩, prog_12_method_15_code, 5, (Option.none : Option Jvm.ClassFile.FieldType))
abbrev M_Mo_become : ev_M := (⟨"MeshLinesModel", "become", "(III)V"⟩, prog_12_method_16_code, 4, (Option.none : Option Jvm.ClassFile.FieldType))
abbrev M_Mo_data : ev_M := (⟨"MeshLinesModel", "data", "(II)V"⟩, prog_12_method_19_code, 6, (Option.none : Option Jvm.ClassFile.FieldType))
abbrev M_Mo_acknowledged : ev_M := (⟨"MeshLinesModel", "acknowledged", "(II)V"⟩, prog_12_method_20_code, 5, (Option.none : Option Jvm.ClassFile.FieldType))
abbrev M_Mo_takes : ev_M := (⟨"MeshLinesModel", "takes", "(II)Z"⟩, prog_12_method_25_code, 5, (Option.some Jvm.ClassFile.FieldType.boolean))
abbrev M_Mo_takeFirst : ev_M := (⟨"MeshLinesModel", "takeFirst", "(II)V"⟩, prog_12_method_27_code, 6, (Option.none : Option Jvm.ClassFile.FieldType))
abbrev M_Mo_isLeaving : ev_M := (⟨"MeshLinesModel", "isLeaving", "(I)Z"⟩, prog_12_method_28_code, 1, (Option.some Jvm.ClassFile.FieldType.boolean))
abbrev M_Mo_evict : ev_M := (⟨"MeshLinesModel", "evict", "(II)V"⟩, prog_12_method_29_code, 7, (Option.none : Option Jvm.ClassFile.FieldType))
abbrev M_Mo_core : ev_M := (⟨"MeshLinesModel", "core", "(I)V"⟩, prog_12_method_30_code, 8, (Option.none : Option Jvm.ClassFile.FieldType))
abbrev M_Mo_oneCycle : ev_M := (⟨"MeshLinesModel", "oneCycle", "()V"⟩, prog_12_method_31_code, 5, (Option.none : Option Jvm.ClassFile.FieldType))
abbrev M_Mo_run : ev_M := (⟨"MeshLinesModel", "run", "(I)I"⟩, prog_12_method_33_code, 3, (Option.some Jvm.ClassFile.FieldType.int))
abbrev M_ML_result : ev_M := (⟨"MeshLines", "result", "(II)I"⟩, prog_1_method_4_code, 4, (Option.some Jvm.ClassFile.FieldType.int))
abbrev M_Mo_result : ev_M := (⟨"MeshLinesModel", "result", "(II)I"⟩, prog_12_method_34_code, 3, (Option.some Jvm.ClassFile.FieldType.int))
abbrev M_ML_done : ev_M := (⟨"MeshLines", "done", "(I)I"⟩, prog_1_method_5_code, 2, (Option.some Jvm.ClassFile.FieldType.int))
abbrev M_Mo_done : ev_M := (⟨"MeshLinesModel", "done", "(I)I"⟩, prog_12_method_35_code, 2, (Option.some Jvm.ClassFile.FieldType.int))
abbrev M_ML_cache : ev_M := (⟨"MeshLines", "cache", "(III)I"⟩, prog_1_method_6_code, 5, (Option.some Jvm.ClassFile.FieldType.int))
abbrev M_Mo_cache : ev_M := (⟨"MeshLinesModel", "cache", "(III)I"⟩, prog_12_method_36_code, 5, (Option.some Jvm.ClassFile.FieldType.int))
abbrev M_ML_home : ev_M := (⟨"MeshLines", "home", "(II)I"⟩, prog_1_method_7_code, 4, (Option.some Jvm.ClassFile.FieldType.int))
abbrev M_Mo_home : ev_M := (⟨"MeshLinesModel", "home", "(II)I"⟩, prog_12_method_37_code, 3, (Option.some Jvm.ClassFile.FieldType.int))
abbrev M_ML_buffer : ev_M := (⟨"MeshLines", "buffer", "(III)I"⟩, prog_1_method_8_code, 5, (Option.some Jvm.ClassFile.FieldType.int))
abbrev M_Mo_buffer : ev_M := (⟨"MeshLinesModel", "buffer", "(III)I"⟩, prog_12_method_38_code, 4, (Option.some Jvm.ClassFile.FieldType.int))
abbrev M_ML_held : ev_M := (⟨"MeshLines", "held", "(III)I"⟩, prog_1_method_9_code, 5, (Option.some Jvm.ClassFile.FieldType.int))
abbrev M_Mo_held : ev_M := (⟨"MeshLinesModel", "held", "(III)I"⟩, prog_12_method_39_code, 4, (Option.some Jvm.ClassFile.FieldType.int))
abbrev M_ML_count : ev_M := (⟨"MeshLines", "count", "(I)I"⟩, prog_1_method_10_code, 2, (Option.some Jvm.ClassFile.FieldType.int))
abbrev M_Mo_count : ev_M := (⟨"MeshLinesModel", "count", "(I)I"⟩, prog_12_method_40_code, 2, (Option.some Jvm.ClassFile.FieldType.int))
abbrev M_Lw_law : ev_M := (⟨"MeshLinesLaw", "law", "([I)Z"⟩, code, 4, (Option.some Jvm.ClassFile.FieldType.boolean))
theorem ck_0w : ∀ k, k < 4 → u_lay C_0 F_0 k ∈ evW
  | 0, _ => w_278
  | 1, _ => w_280
  | 2, _ => w_282
  | 3, _ => w_284
  | n + 4, h => absurd h (by omega)
def ty_0 : Nat → FieldType := fun k => match k with
  | 0 => .object "MeshLines$Mesh"
  | 1 => .array (.object "MeshLines$Home")
  | 2 => .array (.object "MeshLines$Node")
  | _ => .int
theorem ck_0t : ∀ k, k < 4 → parseFieldDescriptor (F_0 k).2.2.1 = some (ty_0 k) ∧ (evF 0 k = 0 → ty_0 k = .int) ∧ (evF 0 k = 1 → ty_0 k = .boolean) ∧ (evF 0 k = 2 → (∃ n, ty_0 k = .object n) ∨ ∃ t, ty_0 k = .array t) ∧ evF 0 k ≤ 2
  | 0, _ => ⟨by decide +kernel, fun h => absurd h (by decide), fun h => absurd h (by decide), fun _ => Or.inl ⟨_, rfl⟩, by decide⟩
  | 1, _ => ⟨by decide +kernel, fun h => absurd h (by decide), fun h => absurd h (by decide), fun _ => Or.inr ⟨_, rfl⟩, by decide⟩
  | 2, _ => ⟨by decide +kernel, fun h => absurd h (by decide), fun h => absurd h (by decide), fun _ => Or.inr ⟨_, rfl⟩, by decide⟩
  | 3, _ => ⟨by decide +kernel, fun _ => rfl, fun h => absurd h (by decide), fun h => absurd h (by decide), by decide⟩
  | n + 4, h => absurd h (by omega)
theorem ck_0n : ∀ a, a < 4 → ∀ b, b < 4 → a ≠ b → (F_0 a).2.1 ≠ (F_0 b).2.1 := by decide +kernel
theorem ck_0 : ev_CK 0 C_0 F_0 4 := ⟨rfl, fun w hw => by
  obtain ⟨k, hk, rfl⟩ := List.mem_map.mp hw
  exact ck_0w k (List.mem_range.mp hk), ⟨ty_0, ck_0t⟩, ck_0n⟩
theorem ck_1w : ∀ k, k < 5 → u_lay C_1 F_1 k ∈ evW
  | 0, _ => w_134
  | 1, _ => w_136
  | 2, _ => w_138
  | 3, _ => w_140
  | 4, _ => w_142
  | n + 5, h => absurd h (by omega)
def ty_1 : Nat → FieldType := fun k => match k with
  | 0 => .array (.object "MeshLines$Lane")
  | 1 => .int
  | 2 => .int
  | 3 => .int
  | _ => .int
theorem ck_1t : ∀ k, k < 5 → parseFieldDescriptor (F_1 k).2.2.1 = some (ty_1 k) ∧ (evF 1 k = 0 → ty_1 k = .int) ∧ (evF 1 k = 1 → ty_1 k = .boolean) ∧ (evF 1 k = 2 → (∃ n, ty_1 k = .object n) ∨ ∃ t, ty_1 k = .array t) ∧ evF 1 k ≤ 2
  | 0, _ => ⟨by decide +kernel, fun h => absurd h (by decide), fun h => absurd h (by decide), fun _ => Or.inr ⟨_, rfl⟩, by decide⟩
  | 1, _ => ⟨by decide +kernel, fun _ => rfl, fun h => absurd h (by decide), fun h => absurd h (by decide), by decide⟩
  | 2, _ => ⟨by decide +kernel, fun _ => rfl, fun h => absurd h (by decide), fun h => absurd h (by decide), by decide⟩
  | 3, _ => ⟨by decide +kernel, fun _ => rfl, fun h => absurd h (by decide), fun h => absurd h (by decide), by decide⟩
  | 4, _ => ⟨by decide +kernel, fun _ => rfl, fun h => absurd h (by decide), fun h => absurd h (by decide), by decide⟩
  | n + 5, h => absurd h (by omega)
theorem ck_1n : ∀ a, a < 5 → ∀ b, b < 5 → a ≠ b → (F_1 a).2.1 ≠ (F_1 b).2.1 := by decide +kernel
theorem ck_1 : ev_CK 1 C_1 F_1 5 := ⟨rfl, fun w hw => by
  obtain ⟨k, hk, rfl⟩ := List.mem_map.mp hw
  exact ck_1w k (List.mem_range.mp hk), ⟨ty_1, ck_1t⟩, ck_1n⟩
theorem ck_2w : ∀ k, k < 7 → u_lay C_2 F_2 k ∈ evW
  | 0, _ => w_111
  | 1, _ => w_113
  | 2, _ => w_115
  | 3, _ => w_117
  | 4, _ => w_119
  | 5, _ => w_121
  | 6, _ => w_123
  | n + 7, h => absurd h (by omega)
def ty_2 : Nat → FieldType := fun k => match k with
  | 0 => .int
  | 1 => .object "java/util/ArrayList"
  | 2 => .object "java/util/ArrayList"
  | 3 => .array (.object "MeshLines$FlitBuffer")
  | 4 => .array .int
  | 5 => .array .int
  | _ => .int
theorem ck_2t : ∀ k, k < 7 → parseFieldDescriptor (F_2 k).2.2.1 = some (ty_2 k) ∧ (evF 2 k = 0 → ty_2 k = .int) ∧ (evF 2 k = 1 → ty_2 k = .boolean) ∧ (evF 2 k = 2 → (∃ n, ty_2 k = .object n) ∨ ∃ t, ty_2 k = .array t) ∧ evF 2 k ≤ 2
  | 0, _ => ⟨by decide +kernel, fun _ => rfl, fun h => absurd h (by decide), fun h => absurd h (by decide), by decide⟩
  | 1, _ => ⟨by decide +kernel, fun h => absurd h (by decide), fun h => absurd h (by decide), fun _ => Or.inl ⟨_, rfl⟩, by decide⟩
  | 2, _ => ⟨by decide +kernel, fun h => absurd h (by decide), fun h => absurd h (by decide), fun _ => Or.inl ⟨_, rfl⟩, by decide⟩
  | 3, _ => ⟨by decide +kernel, fun h => absurd h (by decide), fun h => absurd h (by decide), fun _ => Or.inr ⟨_, rfl⟩, by decide⟩
  | 4, _ => ⟨by decide +kernel, fun h => absurd h (by decide), fun h => absurd h (by decide), fun _ => Or.inr ⟨_, rfl⟩, by decide⟩
  | 5, _ => ⟨by decide +kernel, fun h => absurd h (by decide), fun h => absurd h (by decide), fun _ => Or.inr ⟨_, rfl⟩, by decide⟩
  | 6, _ => ⟨by decide +kernel, fun _ => rfl, fun h => absurd h (by decide), fun h => absurd h (by decide), by decide⟩
  | n + 7, h => absurd h (by omega)
theorem ck_2n : ∀ a, a < 7 → ∀ b, b < 7 → a ≠ b → (F_2 a).2.1 ≠ (F_2 b).2.1 := by decide +kernel
theorem ck_2 : ev_CK 2 C_2 F_2 7 := ⟨rfl, fun w hw => by
  obtain ⟨k, hk, rfl⟩ := List.mem_map.mp hw
  exact ck_2w k (List.mem_range.mp hk), ⟨ty_2, ck_2t⟩, ck_2n⟩
theorem ck_3w : ∀ k, k < 3 → u_lay C_3 F_3 k ∈ evW
  | 0, _ => w_71
  | 1, _ => w_73
  | 2, _ => w_75
  | n + 3, h => absurd h (by omega)
def ty_3 : Nat → FieldType := fun k => match k with
  | 0 => .array (.object "java/lang/Object")
  | 1 => .int
  | _ => .int
theorem ck_3t : ∀ k, k < 3 → parseFieldDescriptor (F_3 k).2.2.1 = some (ty_3 k) ∧ (evF 3 k = 0 → ty_3 k = .int) ∧ (evF 3 k = 1 → ty_3 k = .boolean) ∧ (evF 3 k = 2 → (∃ n, ty_3 k = .object n) ∨ ∃ t, ty_3 k = .array t) ∧ evF 3 k ≤ 2
  | 0, _ => ⟨by decide +kernel, fun h => absurd h (by decide), fun h => absurd h (by decide), fun _ => Or.inr ⟨_, rfl⟩, by decide⟩
  | 1, _ => ⟨by decide +kernel, fun _ => rfl, fun h => absurd h (by decide), fun h => absurd h (by decide), by decide⟩
  | 2, _ => ⟨by decide +kernel, fun _ => rfl, fun h => absurd h (by decide), fun h => absurd h (by decide), by decide⟩
  | n + 3, h => absurd h (by omega)
theorem ck_3n : ∀ a, a < 3 → ∀ b, b < 3 → a ≠ b → (F_3 a).2.1 ≠ (F_3 b).2.1 := by decide +kernel
theorem ck_3 : ev_CK 3 C_3 F_3 3 := ⟨rfl, fun w hw => by
  obtain ⟨k, hk, rfl⟩ := List.mem_map.mp hw
  exact ck_3w k (List.mem_range.mp hk), ⟨ty_3, ck_3t⟩, ck_3n⟩
theorem ck_4w : ∀ k, k < 2 → u_lay C_4 F_4 k ∈ evW
  | 0, _ => w_90
  | 1, _ => w_92
  | n + 2, h => absurd h (by omega)
def ty_4 : Nat → FieldType := fun k => match k with
  | 0 => .array (.object "MeshLines$Flit")
  | _ => .int
theorem ck_4t : ∀ k, k < 2 → parseFieldDescriptor (F_4 k).2.2.1 = some (ty_4 k) ∧ (evF 4 k = 0 → ty_4 k = .int) ∧ (evF 4 k = 1 → ty_4 k = .boolean) ∧ (evF 4 k = 2 → (∃ n, ty_4 k = .object n) ∨ ∃ t, ty_4 k = .array t) ∧ evF 4 k ≤ 2
  | 0, _ => ⟨by decide +kernel, fun h => absurd h (by decide), fun h => absurd h (by decide), fun _ => Or.inr ⟨_, rfl⟩, by decide⟩
  | 1, _ => ⟨by decide +kernel, fun _ => rfl, fun h => absurd h (by decide), fun h => absurd h (by decide), by decide⟩
  | n + 2, h => absurd h (by omega)
theorem ck_4n : ∀ a, a < 2 → ∀ b, b < 2 → a ≠ b → (F_4 a).2.1 ≠ (F_4 b).2.1 := by decide +kernel
theorem ck_4 : ev_CK 4 C_4 F_4 2 := ⟨rfl, fun w hw => by
  obtain ⟨k, hk, rfl⟩ := List.mem_map.mp hw
  exact ck_4w k (List.mem_range.mp hk), ⟨ty_4, ck_4t⟩, ck_4n⟩
theorem ck_5w : ∀ k, k < 7 → u_lay C_5 F_5 k ∈ evW
  | 0, _ => w_166
  | 1, _ => w_168
  | 2, _ => w_170
  | 3, _ => w_172
  | 4, _ => w_174
  | 5, _ => w_176
  | 6, _ => w_178
  | n + 7, h => absurd h (by omega)
def ty_5 : Nat → FieldType := fun k => match k with
  | 0 => .int
  | 1 => .int
  | 2 => .object "MeshLines$Mesh"
  | 3 => .int
  | 4 => .int
  | 5 => .int
  | _ => .int
theorem ck_5t : ∀ k, k < 7 → parseFieldDescriptor (F_5 k).2.2.1 = some (ty_5 k) ∧ (evF 5 k = 0 → ty_5 k = .int) ∧ (evF 5 k = 1 → ty_5 k = .boolean) ∧ (evF 5 k = 2 → (∃ n, ty_5 k = .object n) ∨ ∃ t, ty_5 k = .array t) ∧ evF 5 k ≤ 2
  | 0, _ => ⟨by decide +kernel, fun _ => rfl, fun h => absurd h (by decide), fun h => absurd h (by decide), by decide⟩
  | 1, _ => ⟨by decide +kernel, fun _ => rfl, fun h => absurd h (by decide), fun h => absurd h (by decide), by decide⟩
  | 2, _ => ⟨by decide +kernel, fun h => absurd h (by decide), fun h => absurd h (by decide), fun _ => Or.inl ⟨_, rfl⟩, by decide⟩
  | 3, _ => ⟨by decide +kernel, fun _ => rfl, fun h => absurd h (by decide), fun h => absurd h (by decide), by decide⟩
  | 4, _ => ⟨by decide +kernel, fun _ => rfl, fun h => absurd h (by decide), fun h => absurd h (by decide), by decide⟩
  | 5, _ => ⟨by decide +kernel, fun _ => rfl, fun h => absurd h (by decide), fun h => absurd h (by decide), by decide⟩
  | 6, _ => ⟨by decide +kernel, fun _ => rfl, fun h => absurd h (by decide), fun h => absurd h (by decide), by decide⟩
  | n + 7, h => absurd h (by omega)
theorem ck_5n : ∀ a, a < 7 → ∀ b, b < 7 → a ≠ b → (F_5 a).2.1 ≠ (F_5 b).2.1 := by decide +kernel
theorem ck_5 : ev_CK 5 C_5 F_5 7 := ⟨rfl, fun w hw => by
  obtain ⟨k, hk, rfl⟩ := List.mem_map.mp hw
  exact ck_5w k (List.mem_range.mp hk), ⟨ty_5, ck_5t⟩, ck_5n⟩
theorem ck_6w : ∀ k, k < 5 → u_lay C_6 F_6 k ∈ evW
  | 0, _ => w_263
  | 1, _ => w_265
  | 2, _ => w_267
  | 3, _ => w_269
  | 4, _ => w_271
  | n + 5, h => absurd h (by omega)
def ty_6 : Nat → FieldType := fun k => match k with
  | 0 => .int
  | 1 => .object "MeshLines$Mesh"
  | 2 => .array (.object "MeshLines$Home")
  | 3 => .object "MeshLines$Cache"
  | _ => .object "MeshLines$Core"
theorem ck_6t : ∀ k, k < 5 → parseFieldDescriptor (F_6 k).2.2.1 = some (ty_6 k) ∧ (evF 6 k = 0 → ty_6 k = .int) ∧ (evF 6 k = 1 → ty_6 k = .boolean) ∧ (evF 6 k = 2 → (∃ n, ty_6 k = .object n) ∨ ∃ t, ty_6 k = .array t) ∧ evF 6 k ≤ 2
  | 0, _ => ⟨by decide +kernel, fun _ => rfl, fun h => absurd h (by decide), fun h => absurd h (by decide), by decide⟩
  | 1, _ => ⟨by decide +kernel, fun h => absurd h (by decide), fun h => absurd h (by decide), fun _ => Or.inl ⟨_, rfl⟩, by decide⟩
  | 2, _ => ⟨by decide +kernel, fun h => absurd h (by decide), fun h => absurd h (by decide), fun _ => Or.inr ⟨_, rfl⟩, by decide⟩
  | 3, _ => ⟨by decide +kernel, fun h => absurd h (by decide), fun h => absurd h (by decide), fun _ => Or.inl ⟨_, rfl⟩, by decide⟩
  | 4, _ => ⟨by decide +kernel, fun h => absurd h (by decide), fun h => absurd h (by decide), fun _ => Or.inl ⟨_, rfl⟩, by decide⟩
  | n + 5, h => absurd h (by omega)
theorem ck_6n : ∀ a, a < 5 → ∀ b, b < 5 → a ≠ b → (F_6 a).2.1 ≠ (F_6 b).2.1 := by decide +kernel
theorem ck_6 : ev_CK 6 C_6 F_6 5 := ⟨rfl, fun w hw => by
  obtain ⟨k, hk, rfl⟩ := List.mem_map.mp hw
  exact ck_6w k (List.mem_range.mp hk), ⟨ty_6, ck_6t⟩, ck_6n⟩
theorem ck_7w : ∀ k, k < 6 → u_lay C_7 F_7 k ∈ evW
  | 0, _ => w_207
  | 1, _ => w_209
  | 2, _ => w_211
  | 3, _ => w_213
  | 4, _ => w_215
  | 5, _ => w_217
  | n + 6, h => absurd h (by omega)
def ty_7 : Nat → FieldType := fun k => match k with
  | 0 => .int
  | 1 => .object "MeshLines$Mesh"
  | 2 => .array .int
  | 3 => .array .int
  | 4 => .array .int
  | _ => .array .int
theorem ck_7t : ∀ k, k < 6 → parseFieldDescriptor (F_7 k).2.2.1 = some (ty_7 k) ∧ (evF 7 k = 0 → ty_7 k = .int) ∧ (evF 7 k = 1 → ty_7 k = .boolean) ∧ (evF 7 k = 2 → (∃ n, ty_7 k = .object n) ∨ ∃ t, ty_7 k = .array t) ∧ evF 7 k ≤ 2
  | 0, _ => ⟨by decide +kernel, fun _ => rfl, fun h => absurd h (by decide), fun h => absurd h (by decide), by decide⟩
  | 1, _ => ⟨by decide +kernel, fun h => absurd h (by decide), fun h => absurd h (by decide), fun _ => Or.inl ⟨_, rfl⟩, by decide⟩
  | 2, _ => ⟨by decide +kernel, fun h => absurd h (by decide), fun h => absurd h (by decide), fun _ => Or.inr ⟨_, rfl⟩, by decide⟩
  | 3, _ => ⟨by decide +kernel, fun h => absurd h (by decide), fun h => absurd h (by decide), fun _ => Or.inr ⟨_, rfl⟩, by decide⟩
  | 4, _ => ⟨by decide +kernel, fun h => absurd h (by decide), fun h => absurd h (by decide), fun _ => Or.inr ⟨_, rfl⟩, by decide⟩
  | 5, _ => ⟨by decide +kernel, fun h => absurd h (by decide), fun h => absurd h (by decide), fun _ => Or.inr ⟨_, rfl⟩, by decide⟩
  | n + 6, h => absurd h (by omega)
theorem ck_7n : ∀ a, a < 6 → ∀ b, b < 6 → a ≠ b → (F_7 a).2.1 ≠ (F_7 b).2.1 := by decide +kernel
theorem ck_7 : ev_CK 7 C_7 F_7 6 := ⟨rfl, fun w hw => by
  obtain ⟨k, hk, rfl⟩ := List.mem_map.mp hw
  exact ck_7w k (List.mem_range.mp hk), ⟨ty_7, ck_7t⟩, ck_7n⟩
theorem ck_8w : ∀ k, k < 9 → u_lay C_8 F_8 k ∈ evW
  | 0, _ => w_237
  | 1, _ => w_239
  | 2, _ => w_241
  | 3, _ => w_243
  | 4, _ => w_245
  | 5, _ => w_247
  | 6, _ => w_249
  | 7, _ => w_251
  | 8, _ => w_253
  | n + 9, h => absurd h (by omega)
def ty_8 : Nat → FieldType := fun k => match k with
  | 0 => .object "MeshLines$Cache"
  | 1 => .array .int
  | 2 => .array .int
  | 3 => .array .int
  | 4 => .array .int
  | 5 => .array .int
  | 6 => .int
  | 7 => .int
  | _ => .int
theorem ck_8t : ∀ k, k < 9 → parseFieldDescriptor (F_8 k).2.2.1 = some (ty_8 k) ∧ (evF 8 k = 0 → ty_8 k = .int) ∧ (evF 8 k = 1 → ty_8 k = .boolean) ∧ (evF 8 k = 2 → (∃ n, ty_8 k = .object n) ∨ ∃ t, ty_8 k = .array t) ∧ evF 8 k ≤ 2
  | 0, _ => ⟨by decide +kernel, fun h => absurd h (by decide), fun h => absurd h (by decide), fun _ => Or.inl ⟨_, rfl⟩, by decide⟩
  | 1, _ => ⟨by decide +kernel, fun h => absurd h (by decide), fun h => absurd h (by decide), fun _ => Or.inr ⟨_, rfl⟩, by decide⟩
  | 2, _ => ⟨by decide +kernel, fun h => absurd h (by decide), fun h => absurd h (by decide), fun _ => Or.inr ⟨_, rfl⟩, by decide⟩
  | 3, _ => ⟨by decide +kernel, fun h => absurd h (by decide), fun h => absurd h (by decide), fun _ => Or.inr ⟨_, rfl⟩, by decide⟩
  | 4, _ => ⟨by decide +kernel, fun h => absurd h (by decide), fun h => absurd h (by decide), fun _ => Or.inr ⟨_, rfl⟩, by decide⟩
  | 5, _ => ⟨by decide +kernel, fun h => absurd h (by decide), fun h => absurd h (by decide), fun _ => Or.inr ⟨_, rfl⟩, by decide⟩
  | 6, _ => ⟨by decide +kernel, fun _ => rfl, fun h => absurd h (by decide), fun h => absurd h (by decide), by decide⟩
  | 7, _ => ⟨by decide +kernel, fun _ => rfl, fun h => absurd h (by decide), fun h => absurd h (by decide), by decide⟩
  | 8, _ => ⟨by decide +kernel, fun _ => rfl, fun h => absurd h (by decide), fun h => absurd h (by decide), by decide⟩
  | n + 9, h => absurd h (by omega)
theorem ck_8n : ∀ a, a < 9 → ∀ b, b < 9 → a ≠ b → (F_8 a).2.1 ≠ (F_8 b).2.1 := by decide +kernel
theorem ck_8 : ev_CK 8 C_8 F_8 9 := ⟨rfl, fun w hw => by
  obtain ⟨k, hk, rfl⟩ := List.mem_map.mp hw
  exact ck_8w k (List.mem_range.mp hk), ⟨ty_8, ck_8t⟩, ck_8n⟩
theorem ck_9w : ∀ k, k < 4 → u_lay C_9 F_9 k ∈ evW
  | 0, _ => w_349
  | 1, _ => w_351
  | 2, _ => w_353
  | 3, _ => w_355
  | n + 4, h => absurd h (by omega)
def ty_9 : Nat → FieldType := fun k => match k with
  | 0 => .object "MeshLines$Packet"
  | 1 => .boolean
  | 2 => .boolean
  | _ => .int
theorem ck_9t : ∀ k, k < 4 → parseFieldDescriptor (F_9 k).2.2.1 = some (ty_9 k) ∧ (evF 9 k = 0 → ty_9 k = .int) ∧ (evF 9 k = 1 → ty_9 k = .boolean) ∧ (evF 9 k = 2 → (∃ n, ty_9 k = .object n) ∨ ∃ t, ty_9 k = .array t) ∧ evF 9 k ≤ 2
  | 0, _ => ⟨by decide +kernel, fun h => absurd h (by decide), fun h => absurd h (by decide), fun _ => Or.inl ⟨_, rfl⟩, by decide⟩
  | 1, _ => ⟨by decide +kernel, fun h => absurd h (by decide), fun _ => rfl, fun h => absurd h (by decide), by decide⟩
  | 2, _ => ⟨by decide +kernel, fun h => absurd h (by decide), fun _ => rfl, fun h => absurd h (by decide), by decide⟩
  | 3, _ => ⟨by decide +kernel, fun _ => rfl, fun h => absurd h (by decide), fun h => absurd h (by decide), by decide⟩
  | n + 4, h => absurd h (by omega)
theorem ck_9n : ∀ a, a < 4 → ∀ b, b < 4 → a ≠ b → (F_9 a).2.1 ≠ (F_9 b).2.1 := by decide +kernel
theorem ck_9 : ev_CK 9 C_9 F_9 4 := ⟨rfl, fun w hw => by
  obtain ⟨k, hk, rfl⟩ := List.mem_map.mp hw
  exact ck_9w k (List.mem_range.mp hk), ⟨ty_9, ck_9t⟩, ck_9n⟩
theorem ck_10w : ∀ k, k < 7 → u_lay C_10 F_10 k ∈ evW
  | 0, _ => w_546
  | 1, _ => w_548
  | 2, _ => w_550
  | 3, _ => w_552
  | 4, _ => w_554
  | 5, _ => w_556
  | 6, _ => w_558
  | n + 7, h => absurd h (by omega)
def ty_10 : Nat → FieldType := fun k => match k with
  | 0 => .int
  | 1 => .int
  | 2 => .int
  | 3 => .int
  | 4 => .int
  | 5 => .int
  | _ => .int
theorem ck_10t : ∀ k, k < 7 → parseFieldDescriptor (F_10 k).2.2.1 = some (ty_10 k) ∧ (evF 10 k = 0 → ty_10 k = .int) ∧ (evF 10 k = 1 → ty_10 k = .boolean) ∧ (evF 10 k = 2 → (∃ n, ty_10 k = .object n) ∨ ∃ t, ty_10 k = .array t) ∧ evF 10 k ≤ 2
  | 0, _ => ⟨by decide +kernel, fun _ => rfl, fun h => absurd h (by decide), fun h => absurd h (by decide), by decide⟩
  | 1, _ => ⟨by decide +kernel, fun _ => rfl, fun h => absurd h (by decide), fun h => absurd h (by decide), by decide⟩
  | 2, _ => ⟨by decide +kernel, fun _ => rfl, fun h => absurd h (by decide), fun h => absurd h (by decide), by decide⟩
  | 3, _ => ⟨by decide +kernel, fun _ => rfl, fun h => absurd h (by decide), fun h => absurd h (by decide), by decide⟩
  | 4, _ => ⟨by decide +kernel, fun _ => rfl, fun h => absurd h (by decide), fun h => absurd h (by decide), by decide⟩
  | 5, _ => ⟨by decide +kernel, fun _ => rfl, fun h => absurd h (by decide), fun h => absurd h (by decide), by decide⟩
  | 6, _ => ⟨by decide +kernel, fun _ => rfl, fun h => absurd h (by decide), fun h => absurd h (by decide), by decide⟩
  | n + 7, h => absurd h (by omega)
theorem ck_10n : ∀ a, a < 7 → ∀ b, b < 7 → a ≠ b → (F_10 a).2.1 ≠ (F_10 b).2.1 := by decide +kernel
theorem ck_10 : ev_CK 10 C_10 F_10 7 := ⟨rfl, fun w hw => by
  obtain ⟨k, hk, rfl⟩ := List.mem_map.mp hw
  exact ck_10w k (List.mem_range.mp hk), ⟨ty_10, ck_10t⟩, ck_10n⟩
theorem ck_11w : ∀ k, k < 41 → u_lay C_11 F_11 k ∈ evW
  | 0, _ => w_719
  | 1, _ => w_721
  | 2, _ => w_723
  | 3, _ => w_725
  | 4, _ => w_727
  | 5, _ => w_729
  | 6, _ => w_731
  | 7, _ => w_733
  | 8, _ => w_735
  | 9, _ => w_737
  | 10, _ => w_739
  | 11, _ => w_741
  | 12, _ => w_743
  | 13, _ => w_745
  | 14, _ => w_747
  | 15, _ => w_749
  | 16, _ => w_751
  | 17, _ => w_753
  | 18, _ => w_755
  | 19, _ => w_757
  | 20, _ => w_759
  | 21, _ => w_761
  | 22, _ => w_763
  | 23, _ => w_765
  | 24, _ => w_767
  | 25, _ => w_769
  | 26, _ => w_771
  | 27, _ => w_773
  | 28, _ => w_775
  | 29, _ => w_777
  | 30, _ => w_779
  | 31, _ => w_781
  | 32, _ => w_783
  | 33, _ => w_785
  | 34, _ => w_787
  | 35, _ => w_789
  | 36, _ => w_791
  | 37, _ => w_793
  | 38, _ => w_795
  | 39, _ => w_797
  | 40, _ => w_799
  | n + 41, h => absurd h (by omega)
def ty_11 : Nat → FieldType := fun k => match k with
  | 0 => .int
  | 1 => .int
  | 2 => .int
  | 3 => .array .boolean
  | 4 => .array .int
  | 5 => .array .int
  | 6 => .array .int
  | 7 => .array .int
  | 8 => .array .int
  | 9 => .array .int
  | 10 => .array .int
  | 11 => .array .int
  | 12 => .array .int
  | 13 => .array .int
  | 14 => .array .int
  | 15 => .array .int
  | 16 => .array .int
  | 17 => .array .int
  | 18 => .array .int
  | 19 => .array .int
  | 20 => .array .int
  | 21 => .array .int
  | 22 => .array .int
  | 23 => .array .int
  | 24 => .array .int
  | 25 => .array .int
  | 26 => .array .int
  | 27 => .array .int
  | 28 => .array .int
  | 29 => .array .int
  | 30 => .array .int
  | 31 => .array .int
  | 32 => .array .int
  | 33 => .array .int
  | 34 => .array .int
  | 35 => .array .int
  | 36 => .array .int
  | 37 => .array .boolean
  | 38 => .int
  | 39 => .int
  | _ => .int
theorem ck_11t : ∀ k, k < 41 → parseFieldDescriptor (F_11 k).2.2.1 = some (ty_11 k) ∧ (evF 11 k = 0 → ty_11 k = .int) ∧ (evF 11 k = 1 → ty_11 k = .boolean) ∧ (evF 11 k = 2 → (∃ n, ty_11 k = .object n) ∨ ∃ t, ty_11 k = .array t) ∧ evF 11 k ≤ 2
  | 0, _ => ⟨by decide +kernel, fun _ => rfl, fun h => absurd h (by decide), fun h => absurd h (by decide), by decide⟩
  | 1, _ => ⟨by decide +kernel, fun _ => rfl, fun h => absurd h (by decide), fun h => absurd h (by decide), by decide⟩
  | 2, _ => ⟨by decide +kernel, fun _ => rfl, fun h => absurd h (by decide), fun h => absurd h (by decide), by decide⟩
  | 3, _ => ⟨by decide +kernel, fun h => absurd h (by decide), fun h => absurd h (by decide), fun _ => Or.inr ⟨_, rfl⟩, by decide⟩
  | 4, _ => ⟨by decide +kernel, fun h => absurd h (by decide), fun h => absurd h (by decide), fun _ => Or.inr ⟨_, rfl⟩, by decide⟩
  | 5, _ => ⟨by decide +kernel, fun h => absurd h (by decide), fun h => absurd h (by decide), fun _ => Or.inr ⟨_, rfl⟩, by decide⟩
  | 6, _ => ⟨by decide +kernel, fun h => absurd h (by decide), fun h => absurd h (by decide), fun _ => Or.inr ⟨_, rfl⟩, by decide⟩
  | 7, _ => ⟨by decide +kernel, fun h => absurd h (by decide), fun h => absurd h (by decide), fun _ => Or.inr ⟨_, rfl⟩, by decide⟩
  | 8, _ => ⟨by decide +kernel, fun h => absurd h (by decide), fun h => absurd h (by decide), fun _ => Or.inr ⟨_, rfl⟩, by decide⟩
  | 9, _ => ⟨by decide +kernel, fun h => absurd h (by decide), fun h => absurd h (by decide), fun _ => Or.inr ⟨_, rfl⟩, by decide⟩
  | 10, _ => ⟨by decide +kernel, fun h => absurd h (by decide), fun h => absurd h (by decide), fun _ => Or.inr ⟨_, rfl⟩, by decide⟩
  | 11, _ => ⟨by decide +kernel, fun h => absurd h (by decide), fun h => absurd h (by decide), fun _ => Or.inr ⟨_, rfl⟩, by decide⟩
  | 12, _ => ⟨by decide +kernel, fun h => absurd h (by decide), fun h => absurd h (by decide), fun _ => Or.inr ⟨_, rfl⟩, by decide⟩
  | 13, _ => ⟨by decide +kernel, fun h => absurd h (by decide), fun h => absurd h (by decide), fun _ => Or.inr ⟨_, rfl⟩, by decide⟩
  | 14, _ => ⟨by decide +kernel, fun h => absurd h (by decide), fun h => absurd h (by decide), fun _ => Or.inr ⟨_, rfl⟩, by decide⟩
  | 15, _ => ⟨by decide +kernel, fun h => absurd h (by decide), fun h => absurd h (by decide), fun _ => Or.inr ⟨_, rfl⟩, by decide⟩
  | 16, _ => ⟨by decide +kernel, fun h => absurd h (by decide), fun h => absurd h (by decide), fun _ => Or.inr ⟨_, rfl⟩, by decide⟩
  | 17, _ => ⟨by decide +kernel, fun h => absurd h (by decide), fun h => absurd h (by decide), fun _ => Or.inr ⟨_, rfl⟩, by decide⟩
  | 18, _ => ⟨by decide +kernel, fun h => absurd h (by decide), fun h => absurd h (by decide), fun _ => Or.inr ⟨_, rfl⟩, by decide⟩
  | 19, _ => ⟨by decide +kernel, fun h => absurd h (by decide), fun h => absurd h (by decide), fun _ => Or.inr ⟨_, rfl⟩, by decide⟩
  | 20, _ => ⟨by decide +kernel, fun h => absurd h (by decide), fun h => absurd h (by decide), fun _ => Or.inr ⟨_, rfl⟩, by decide⟩
  | 21, _ => ⟨by decide +kernel, fun h => absurd h (by decide), fun h => absurd h (by decide), fun _ => Or.inr ⟨_, rfl⟩, by decide⟩
  | 22, _ => ⟨by decide +kernel, fun h => absurd h (by decide), fun h => absurd h (by decide), fun _ => Or.inr ⟨_, rfl⟩, by decide⟩
  | 23, _ => ⟨by decide +kernel, fun h => absurd h (by decide), fun h => absurd h (by decide), fun _ => Or.inr ⟨_, rfl⟩, by decide⟩
  | 24, _ => ⟨by decide +kernel, fun h => absurd h (by decide), fun h => absurd h (by decide), fun _ => Or.inr ⟨_, rfl⟩, by decide⟩
  | 25, _ => ⟨by decide +kernel, fun h => absurd h (by decide), fun h => absurd h (by decide), fun _ => Or.inr ⟨_, rfl⟩, by decide⟩
  | 26, _ => ⟨by decide +kernel, fun h => absurd h (by decide), fun h => absurd h (by decide), fun _ => Or.inr ⟨_, rfl⟩, by decide⟩
  | 27, _ => ⟨by decide +kernel, fun h => absurd h (by decide), fun h => absurd h (by decide), fun _ => Or.inr ⟨_, rfl⟩, by decide⟩
  | 28, _ => ⟨by decide +kernel, fun h => absurd h (by decide), fun h => absurd h (by decide), fun _ => Or.inr ⟨_, rfl⟩, by decide⟩
  | 29, _ => ⟨by decide +kernel, fun h => absurd h (by decide), fun h => absurd h (by decide), fun _ => Or.inr ⟨_, rfl⟩, by decide⟩
  | 30, _ => ⟨by decide +kernel, fun h => absurd h (by decide), fun h => absurd h (by decide), fun _ => Or.inr ⟨_, rfl⟩, by decide⟩
  | 31, _ => ⟨by decide +kernel, fun h => absurd h (by decide), fun h => absurd h (by decide), fun _ => Or.inr ⟨_, rfl⟩, by decide⟩
  | 32, _ => ⟨by decide +kernel, fun h => absurd h (by decide), fun h => absurd h (by decide), fun _ => Or.inr ⟨_, rfl⟩, by decide⟩
  | 33, _ => ⟨by decide +kernel, fun h => absurd h (by decide), fun h => absurd h (by decide), fun _ => Or.inr ⟨_, rfl⟩, by decide⟩
  | 34, _ => ⟨by decide +kernel, fun h => absurd h (by decide), fun h => absurd h (by decide), fun _ => Or.inr ⟨_, rfl⟩, by decide⟩
  | 35, _ => ⟨by decide +kernel, fun h => absurd h (by decide), fun h => absurd h (by decide), fun _ => Or.inr ⟨_, rfl⟩, by decide⟩
  | 36, _ => ⟨by decide +kernel, fun h => absurd h (by decide), fun h => absurd h (by decide), fun _ => Or.inr ⟨_, rfl⟩, by decide⟩
  | 37, _ => ⟨by decide +kernel, fun h => absurd h (by decide), fun h => absurd h (by decide), fun _ => Or.inr ⟨_, rfl⟩, by decide⟩
  | 38, _ => ⟨by decide +kernel, fun _ => rfl, fun h => absurd h (by decide), fun h => absurd h (by decide), by decide⟩
  | 39, _ => ⟨by decide +kernel, fun _ => rfl, fun h => absurd h (by decide), fun h => absurd h (by decide), by decide⟩
  | 40, _ => ⟨by decide +kernel, fun _ => rfl, fun h => absurd h (by decide), fun h => absurd h (by decide), by decide⟩
  | n + 41, h => absurd h (by omega)
theorem ck_11n : ∀ a, a < 41 → ∀ b, b < 41 → a ≠ b → (F_11 a).2.1 ≠ (F_11 b).2.1 := by decide +kernel
theorem ck_11 : ev_CK 11 C_11 F_11 41 := ⟨rfl, fun w hw => by
  obtain ⟨k, hk, rfl⟩ := List.mem_map.mp hw
  exact ck_11w k (List.mem_range.mp hk), ⟨ty_11, ck_11t⟩, ck_11n⟩
theorem ao_52 : ev_AO 52 10 := ⟨_, _, _, _, rfl, (ck_10).1, fun E s hK comp c0 h1 h2 => vb_asgC (xc_52 _ hK.2.2.2.2.1) comp c0 h1 h2⟩
theorem ao_53 : ev_AO 53 5 := ⟨_, _, _, _, rfl, (ck_5).1, fun E s hK comp c0 h1 h2 => vb_asgS comp c0 h1 h2⟩
theorem ao_54 : ev_AO 54 6 := ⟨_, _, _, _, rfl, (ck_6).1, fun E s hK comp c0 h1 h2 => vb_asgS comp c0 h1 h2⟩
theorem ao_55 : ev_AO 55 2 := ⟨_, _, _, _, rfl, (ck_2).1, fun E s hK comp c0 h1 h2 => vb_asgS comp c0 h1 h2⟩
theorem ao_56 : ev_AO 56 4 := ⟨_, _, _, _, rfl, (ck_4).1, fun E s hK comp c0 h1 h2 => vb_asgS comp c0 h1 h2⟩
theorem ao_57 : ev_AO 57 9 := ⟨_, _, _, _, rfl, (ck_9).1, fun E s hK comp c0 h1 h2 => vb_asgS comp c0 h1 h2⟩
theorem fl_ML_18 : ev_FL "MeshLines" 18 0 0 := ⟨_, _, _, "MeshLines", ck_0, by decide, w_274, Or.inl rfl⟩
theorem fl_ML_24 : ev_FL "MeshLines" 24 0 1 := ⟨_, _, _, "MeshLines", ck_0, by decide, w_275, Or.inl rfl⟩
theorem fl_ML_33 : ev_FL "MeshLines" 33 0 2 := ⟨_, _, _, "MeshLines", ck_0, by decide, w_276, Or.inl rfl⟩
theorem fl_ML_44 : ev_FL "MeshLines" 44 6 4 := ⟨_, _, _, "MeshLines$Node", ck_6, by decide, w_262, Or.inl rfl⟩
theorem fl_ML_54 : ev_FL "MeshLines" 54 0 3 := ⟨_, _, _, "MeshLines", ck_0, by decide, w_277, Or.inl rfl⟩
theorem fl_ML_71 : ev_FL "MeshLines" 71 8 7 := ⟨_, _, _, "MeshLines$Core", ck_8, by decide, w_235, Or.inl rfl⟩
theorem fl_ML_74 : ev_FL "MeshLines" 74 8 5 := ⟨_, _, _, "MeshLines$Core", ck_8, by decide, w_232, Or.inl rfl⟩
theorem fl_ML_78 : ev_FL "MeshLines" 78 6 3 := ⟨_, _, _, "MeshLines$Node", ck_6, by decide, w_260, Or.inl rfl⟩
theorem fl_ML_82 : ev_FL "MeshLines" 82 7 2 := ⟨_, _, _, "MeshLines$Cache", ck_7, by decide, w_198, Or.inl rfl⟩
theorem fl_ML_87 : ev_FL "MeshLines" 87 7 3 := ⟨_, _, _, "MeshLines$Cache", ck_7, by decide, w_201, Or.inl rfl⟩
theorem fl_ML_90 : ev_FL "MeshLines" 90 7 4 := ⟨_, _, _, "MeshLines$Cache", ck_7, by decide, w_203, Or.inl rfl⟩
theorem fl_ML_93 : ev_FL "MeshLines" 93 7 5 := ⟨_, _, _, "MeshLines$Cache", ck_7, by decide, w_206, Or.inl rfl⟩
theorem fl_ML_96 : ev_FL "MeshLines" 96 5 3 := ⟨_, _, _, "MeshLines$Home", ck_5, by decide, w_159, Or.inl rfl⟩
theorem fl_ML_99 : ev_FL "MeshLines" 99 5 6 := ⟨_, _, _, "MeshLines$Home", ck_5, by decide, w_165, Or.inl rfl⟩
theorem fl_ML_102 : ev_FL "MeshLines" 102 5 4 := ⟨_, _, _, "MeshLines$Home", ck_5, by decide, w_161, Or.inl rfl⟩
theorem fl_ML_105 : ev_FL "MeshLines" 105 5 5 := ⟨_, _, _, "MeshLines$Home", ck_5, by decide, w_163, Or.inl rfl⟩
theorem fl_ML_112 : ev_FL "MeshLines" 112 2 1 := ⟨_, _, _, "MeshLines$Lane", ck_2, by decide, w_99, Or.inl rfl⟩
theorem fl_ML_124 : ev_FL "MeshLines" 124 2 2 := ⟨_, _, _, "MeshLines$Lane", ck_2, by decide, w_103, Or.inl rfl⟩
theorem fl_ML_127 : ev_FL "MeshLines" 127 2 3 := ⟨_, _, _, "MeshLines$Lane", ck_2, by decide, w_106, Or.inl rfl⟩
theorem fl_ML_131 : ev_FL "MeshLines" 131 4 1 := ⟨_, _, _, "MeshLines$FlitBuffer", ck_4, by decide, w_89, Or.inl rfl⟩
theorem fl_ML_135 : ev_FL "MeshLines" 135 2 4 := ⟨_, _, _, "MeshLines$Lane", ck_2, by decide, w_108, Or.inl rfl⟩
theorem fl_ML_138 : ev_FL "MeshLines" 138 1 2 := ⟨_, _, _, "MeshLines$Mesh", ck_1, by decide, w_129, Or.inl rfl⟩
theorem fl_ML_141 : ev_FL "MeshLines" 141 1 3 := ⟨_, _, _, "MeshLines$Mesh", ck_1, by decide, w_131, Or.inl rfl⟩
theorem fl_ML_144 : ev_FL "MeshLines" 144 1 4 := ⟨_, _, _, "MeshLines$Mesh", ck_1, by decide, w_133, Or.inl rfl⟩
theorem fl_Ca_9 : ev_FL "MeshLines$Cache" 9 7 2 := ⟨_, _, _, "MeshLines$Cache", ck_7, by decide, w_196, Or.inl rfl⟩
theorem fl_Ca_15 : ev_FL "MeshLines$Cache" 15 7 3 := ⟨_, _, _, "MeshLines$Cache", ck_7, by decide, w_199, Or.inl rfl⟩
theorem fl_Ca_18 : ev_FL "MeshLines$Cache" 18 7 4 := ⟨_, _, _, "MeshLines$Cache", ck_7, by decide, w_202, Or.inl rfl⟩
theorem fl_Ca_21 : ev_FL "MeshLines$Cache" 21 7 5 := ⟨_, _, _, "MeshLines$Cache", ck_7, by decide, w_204, Or.inl rfl⟩
theorem fl_Ca_24 : ev_FL "MeshLines$Cache" 24 7 0 := ⟨_, _, _, "MeshLines$Cache", ck_7, by decide, w_194, Or.inl rfl⟩
theorem fl_Ca_28 : ev_FL "MeshLines$Cache" 28 7 1 := ⟨_, _, _, "MeshLines$Cache", ck_7, by decide, w_195, Or.inl rfl⟩
theorem fl_Ca_32 : ev_FL "MeshLines$Cache" 32 10 1 := ⟨_, _, _, "MeshLines$Packet", ck_10, by decide, w_532, Or.inl rfl⟩
theorem fl_Ca_37 : ev_FL "MeshLines$Cache" 37 10 0 := ⟨_, _, _, "MeshLines$Packet", ck_10, by decide, w_530, Or.inl rfl⟩
theorem fl_Ca_56 : ev_FL "MeshLines$Cache" 56 10 3 := ⟨_, _, _, "MeshLines$Packet", ck_10, by decide, w_538, Or.inl rfl⟩
theorem fl_Ca_67 : ev_FL "MeshLines$Cache" 67 10 5 := ⟨_, _, _, "MeshLines$Packet", ck_10, by decide, w_543, Or.inl rfl⟩
theorem fl_Ca_70 : ev_FL "MeshLines$Cache" 70 10 4 := ⟨_, _, _, "MeshLines$Packet", ck_10, by decide, w_541, Or.inl rfl⟩
theorem fl_Co_9 : ev_FL "MeshLines$Core" 9 8 1 := ⟨_, _, _, "MeshLines$Core", ck_8, by decide, w_227, Or.inl rfl⟩
theorem fl_Co_15 : ev_FL "MeshLines$Core" 15 8 2 := ⟨_, _, _, "MeshLines$Core", ck_8, by decide, w_228, Or.inl rfl⟩
theorem fl_Co_18 : ev_FL "MeshLines$Core" 18 8 3 := ⟨_, _, _, "MeshLines$Core", ck_8, by decide, w_229, Or.inl rfl⟩
theorem fl_Co_21 : ev_FL "MeshLines$Core" 21 8 4 := ⟨_, _, _, "MeshLines$Core", ck_8, by decide, w_230, Or.inl rfl⟩
theorem fl_Co_24 : ev_FL "MeshLines$Core" 24 8 5 := ⟨_, _, _, "MeshLines$Core", ck_8, by decide, w_231, Or.inl rfl⟩
theorem fl_Co_27 : ev_FL "MeshLines$Core" 27 8 0 := ⟨_, _, _, "MeshLines$Core", ck_8, by decide, w_226, Or.inl rfl⟩
theorem fl_Co_31 : ev_FL "MeshLines$Core" 31 8 6 := ⟨_, _, _, "MeshLines$Core", ck_8, by decide, w_233, Or.inl rfl⟩
theorem fl_Co_35 : ev_FL "MeshLines$Core" 35 8 7 := ⟨_, _, _, "MeshLines$Core", ck_8, by decide, w_234, Or.inl rfl⟩
theorem fl_Co_38 : ev_FL "MeshLines$Core" 38 8 8 := ⟨_, _, _, "MeshLines$Core", ck_8, by decide, w_236, Or.inl rfl⟩
theorem fl_Co_41 : ev_FL "MeshLines$Core" 41 7 2 := ⟨_, _, _, "MeshLines$Cache", ck_7, by decide, w_197, Or.inl rfl⟩
theorem fl_Co_65 : ev_FL "MeshLines$Core" 65 7 3 := ⟨_, _, _, "MeshLines$Cache", ck_7, by decide, w_200, Or.inl rfl⟩
theorem fl_Co_66 : ev_FL "MeshLines$Core" 66 7 5 := ⟨_, _, _, "MeshLines$Cache", ck_7, by decide, w_205, Or.inl rfl⟩
theorem fl_Fl_17 : ev_FL "MeshLines$Flit" 17 10 6 := ⟨_, _, _, "MeshLines$Packet", ck_10, by decide, w_544, Or.inl rfl⟩
theorem fl_FB_9 : ev_FL "MeshLines$FlitBuffer" 9 4 0 := ⟨_, _, _, "MeshLines$FlitBuffer", ck_4, by decide, w_87, Or.inl rfl⟩
theorem fl_FB_15 : ev_FL "MeshLines$FlitBuffer" 15 4 1 := ⟨_, _, _, "MeshLines$FlitBuffer", ck_4, by decide, w_88, Or.inl rfl⟩
theorem fl_Ho_11 : ev_FL "MeshLines$Home" 11 5 3 := ⟨_, _, _, "MeshLines$Home", ck_5, by decide, w_158, Or.inl rfl⟩
theorem fl_Ho_15 : ev_FL "MeshLines$Home" 15 5 4 := ⟨_, _, _, "MeshLines$Home", ck_5, by decide, w_160, Or.inl rfl⟩
theorem fl_Ho_18 : ev_FL "MeshLines$Home" 18 5 0 := ⟨_, _, _, "MeshLines$Home", ck_5, by decide, w_155, Or.inl rfl⟩
theorem fl_Ho_25 : ev_FL "MeshLines$Home" 25 5 1 := ⟨_, _, _, "MeshLines$Home", ck_5, by decide, w_156, Or.inl rfl⟩
theorem fl_Ho_28 : ev_FL "MeshLines$Home" 28 5 2 := ⟨_, _, _, "MeshLines$Home", ck_5, by decide, w_157, Or.inl rfl⟩
theorem fl_Ho_32 : ev_FL "MeshLines$Home" 32 10 0 := ⟨_, _, _, "MeshLines$Packet", ck_10, by decide, w_529, Or.inl rfl⟩
theorem fl_Ho_37 : ev_FL "MeshLines$Home" 37 10 3 := ⟨_, _, _, "MeshLines$Packet", ck_10, by decide, w_537, Or.inl rfl⟩
theorem fl_Ho_50 : ev_FL "MeshLines$Home" 50 10 4 := ⟨_, _, _, "MeshLines$Packet", ck_10, by decide, w_540, Or.inl rfl⟩
theorem fl_Ho_57 : ev_FL "MeshLines$Home" 57 5 6 := ⟨_, _, _, "MeshLines$Home", ck_5, by decide, w_164, Or.inl rfl⟩
theorem fl_Ho_64 : ev_FL "MeshLines$Home" 64 5 5 := ⟨_, _, _, "MeshLines$Home", ck_5, by decide, w_162, Or.inl rfl⟩
theorem fl_La_12 : ev_FL "MeshLines$Lane" 12 2 1 := ⟨_, _, _, "MeshLines$Lane", ck_2, by decide, w_97, Or.inl rfl⟩
theorem fl_La_23 : ev_FL "MeshLines$Lane" 23 2 3 := ⟨_, _, _, "MeshLines$Lane", ck_2, by decide, w_104, Or.inl rfl⟩
theorem fl_La_27 : ev_FL "MeshLines$Lane" 27 2 4 := ⟨_, _, _, "MeshLines$Lane", ck_2, by decide, w_107, Or.inl rfl⟩
theorem fl_La_31 : ev_FL "MeshLines$Lane" 31 2 5 := ⟨_, _, _, "MeshLines$Lane", ck_2, by decide, w_109, Or.inl rfl⟩
theorem fl_La_34 : ev_FL "MeshLines$Lane" 34 2 0 := ⟨_, _, _, "MeshLines$Lane", ck_2, by decide, w_96, Or.inl rfl⟩
theorem fl_La_56 : ev_FL "MeshLines$Lane" 56 2 6 := ⟨_, _, _, "MeshLines$Lane", ck_2, by decide, w_110, Or.inl rfl⟩
theorem fl_La_66 : ev_FL "MeshLines$Lane" 66 9 2 := ⟨_, _, _, "MeshLines$Flit", ck_9, by decide, w_345, Or.inl rfl⟩
theorem fl_La_77 : ev_FL "MeshLines$Lane" 77 9 1 := ⟨_, _, _, "MeshLines$Flit", ck_9, by decide, w_343, Or.inl rfl⟩
theorem fl_La_80 : ev_FL "MeshLines$Lane" 80 9 0 := ⟨_, _, _, "MeshLines$Flit", ck_9, by decide, w_340, Or.inl rfl⟩
theorem fl_La_84 : ev_FL "MeshLines$Lane" 84 10 2 := ⟨_, _, _, "MeshLines$Packet", ck_10, by decide, w_535, Or.inl rfl⟩
theorem fl_Me_11 : ev_FL "MeshLines$Mesh" 11 1 0 := ⟨_, _, _, "MeshLines$Mesh", ck_1, by decide, w_126, Or.inl rfl⟩
theorem fl_Me_17 : ev_FL "MeshLines$Mesh" 17 1 1 := ⟨_, _, _, "MeshLines$Mesh", ck_1, by decide, w_127, Or.inl rfl⟩
theorem fl_Me_37 : ev_FL "MeshLines$Mesh" 37 2 1 := ⟨_, _, _, "MeshLines$Lane", ck_2, by decide, w_98, Or.inl rfl⟩
theorem fl_Me_47 : ev_FL "MeshLines$Mesh" 47 1 2 := ⟨_, _, _, "MeshLines$Mesh", ck_1, by decide, w_128, Or.inl rfl⟩
theorem fl_Me_54 : ev_FL "MeshLines$Mesh" 54 1 3 := ⟨_, _, _, "MeshLines$Mesh", ck_1, by decide, w_130, Or.inl rfl⟩
theorem fl_Me_69 : ev_FL "MeshLines$Mesh" 69 2 3 := ⟨_, _, _, "MeshLines$Lane", ck_2, by decide, w_105, Or.inl rfl⟩
theorem fl_Me_79 : ev_FL "MeshLines$Mesh" 79 9 3 := ⟨_, _, _, "MeshLines$Flit", ck_9, by decide, w_348, Or.inl rfl⟩
theorem fl_Me_100 : ev_FL "MeshLines$Mesh" 100 1 4 := ⟨_, _, _, "MeshLines$Mesh", ck_1, by decide, w_132, Or.inl rfl⟩
theorem fl_Me_106 : ev_FL "MeshLines$Mesh" 106 9 2 := ⟨_, _, _, "MeshLines$Flit", ck_9, by decide, w_346, Or.inl rfl⟩
theorem fl_Me_110 : ev_FL "MeshLines$Mesh" 110 2 2 := ⟨_, _, _, "MeshLines$Lane", ck_2, by decide, w_102, Or.inl rfl⟩
theorem fl_Me_113 : ev_FL "MeshLines$Mesh" 113 9 0 := ⟨_, _, _, "MeshLines$Flit", ck_9, by decide, w_341, Or.inl rfl⟩
theorem fl_No_9 : ev_FL "MeshLines$Node" 9 6 0 := ⟨_, _, _, "MeshLines$Node", ck_6, by decide, w_256, Or.inl rfl⟩
theorem fl_No_15 : ev_FL "MeshLines$Node" 15 6 1 := ⟨_, _, _, "MeshLines$Node", ck_6, by decide, w_257, Or.inl rfl⟩
theorem fl_No_19 : ev_FL "MeshLines$Node" 19 6 2 := ⟨_, _, _, "MeshLines$Node", ck_6, by decide, w_258, Or.inl rfl⟩
theorem fl_No_28 : ev_FL "MeshLines$Node" 28 6 3 := ⟨_, _, _, "MeshLines$Node", ck_6, by decide, w_259, Or.inl rfl⟩
theorem fl_No_37 : ev_FL "MeshLines$Node" 37 6 4 := ⟨_, _, _, "MeshLines$Node", ck_6, by decide, w_261, Or.inl rfl⟩
theorem fl_No_47 : ev_FL "MeshLines$Node" 47 2 2 := ⟨_, _, _, "MeshLines$Lane", ck_2, by decide, w_101, Or.inl rfl⟩
theorem fl_No_76 : ev_FL "MeshLines$Node" 76 10 1 := ⟨_, _, _, "MeshLines$Packet", ck_10, by decide, w_533, Or.inl rfl⟩
theorem fl_Pa_9 : ev_FL "MeshLines$Packet" 9 10 0 := ⟨_, _, _, "MeshLines$Packet", ck_10, by decide, w_528, Or.inl rfl⟩
theorem fl_Mo_7 : ev_FL "MeshLinesModel" 7 11 3 := ⟨_, _, _, "MeshLinesModel", ck_11, by decide, w_681, Or.inl rfl⟩
theorem fl_Mo_13 : ev_FL "MeshLinesModel" 13 11 4 := ⟨_, _, _, "MeshLinesModel", ck_11, by decide, w_682, Or.inl rfl⟩
theorem fl_Mo_17 : ev_FL "MeshLinesModel" 17 11 5 := ⟨_, _, _, "MeshLinesModel", ck_11, by decide, w_683, Or.inl rfl⟩
theorem fl_Mo_20 : ev_FL "MeshLinesModel" 20 11 6 := ⟨_, _, _, "MeshLinesModel", ck_11, by decide, w_684, Or.inl rfl⟩
theorem fl_Mo_23 : ev_FL "MeshLinesModel" 23 11 7 := ⟨_, _, _, "MeshLinesModel", ck_11, by decide, w_685, Or.inl rfl⟩
theorem fl_Mo_26 : ev_FL "MeshLinesModel" 26 11 8 := ⟨_, _, _, "MeshLinesModel", ck_11, by decide, w_686, Or.inl rfl⟩
theorem fl_Mo_29 : ev_FL "MeshLinesModel" 29 11 9 := ⟨_, _, _, "MeshLinesModel", ck_11, by decide, w_687, Or.inl rfl⟩
theorem fl_Mo_32 : ev_FL "MeshLinesModel" 32 11 10 := ⟨_, _, _, "MeshLinesModel", ck_11, by decide, w_688, Or.inl rfl⟩
theorem fl_Mo_35 : ev_FL "MeshLinesModel" 35 11 11 := ⟨_, _, _, "MeshLinesModel", ck_11, by decide, w_689, Or.inl rfl⟩
theorem fl_Mo_38 : ev_FL "MeshLinesModel" 38 11 12 := ⟨_, _, _, "MeshLinesModel", ck_11, by decide, w_690, Or.inl rfl⟩
theorem fl_Mo_41 : ev_FL "MeshLinesModel" 41 11 13 := ⟨_, _, _, "MeshLinesModel", ck_11, by decide, w_691, Or.inl rfl⟩
theorem fl_Mo_44 : ev_FL "MeshLinesModel" 44 11 14 := ⟨_, _, _, "MeshLinesModel", ck_11, by decide, w_692, Or.inl rfl⟩
theorem fl_Mo_47 : ev_FL "MeshLinesModel" 47 11 15 := ⟨_, _, _, "MeshLinesModel", ck_11, by decide, w_693, Or.inl rfl⟩
theorem fl_Mo_50 : ev_FL "MeshLinesModel" 50 11 16 := ⟨_, _, _, "MeshLinesModel", ck_11, by decide, w_694, Or.inl rfl⟩
theorem fl_Mo_53 : ev_FL "MeshLinesModel" 53 11 17 := ⟨_, _, _, "MeshLinesModel", ck_11, by decide, w_695, Or.inl rfl⟩
theorem fl_Mo_56 : ev_FL "MeshLinesModel" 56 11 18 := ⟨_, _, _, "MeshLinesModel", ck_11, by decide, w_696, Or.inl rfl⟩
theorem fl_Mo_59 : ev_FL "MeshLinesModel" 59 11 19 := ⟨_, _, _, "MeshLinesModel", ck_11, by decide, w_697, Or.inl rfl⟩
theorem fl_Mo_62 : ev_FL "MeshLinesModel" 62 11 20 := ⟨_, _, _, "MeshLinesModel", ck_11, by decide, w_698, Or.inl rfl⟩
theorem fl_Mo_65 : ev_FL "MeshLinesModel" 65 11 21 := ⟨_, _, _, "MeshLinesModel", ck_11, by decide, w_699, Or.inl rfl⟩
theorem fl_Mo_68 : ev_FL "MeshLinesModel" 68 11 22 := ⟨_, _, _, "MeshLinesModel", ck_11, by decide, w_700, Or.inl rfl⟩
theorem fl_Mo_71 : ev_FL "MeshLinesModel" 71 11 23 := ⟨_, _, _, "MeshLinesModel", ck_11, by decide, w_701, Or.inl rfl⟩
theorem fl_Mo_74 : ev_FL "MeshLinesModel" 74 11 24 := ⟨_, _, _, "MeshLinesModel", ck_11, by decide, w_702, Or.inl rfl⟩
theorem fl_Mo_77 : ev_FL "MeshLinesModel" 77 11 25 := ⟨_, _, _, "MeshLinesModel", ck_11, by decide, w_703, Or.inl rfl⟩
theorem fl_Mo_80 : ev_FL "MeshLinesModel" 80 11 26 := ⟨_, _, _, "MeshLinesModel", ck_11, by decide, w_704, Or.inl rfl⟩
theorem fl_Mo_83 : ev_FL "MeshLinesModel" 83 11 27 := ⟨_, _, _, "MeshLinesModel", ck_11, by decide, w_705, Or.inl rfl⟩
theorem fl_Mo_86 : ev_FL "MeshLinesModel" 86 11 28 := ⟨_, _, _, "MeshLinesModel", ck_11, by decide, w_706, Or.inl rfl⟩
theorem fl_Mo_89 : ev_FL "MeshLinesModel" 89 11 29 := ⟨_, _, _, "MeshLinesModel", ck_11, by decide, w_707, Or.inl rfl⟩
theorem fl_Mo_92 : ev_FL "MeshLinesModel" 92 11 30 := ⟨_, _, _, "MeshLinesModel", ck_11, by decide, w_708, Or.inl rfl⟩
theorem fl_Mo_95 : ev_FL "MeshLinesModel" 95 11 31 := ⟨_, _, _, "MeshLinesModel", ck_11, by decide, w_709, Or.inl rfl⟩
theorem fl_Mo_98 : ev_FL "MeshLinesModel" 98 11 32 := ⟨_, _, _, "MeshLinesModel", ck_11, by decide, w_710, Or.inl rfl⟩
theorem fl_Mo_101 : ev_FL "MeshLinesModel" 101 11 33 := ⟨_, _, _, "MeshLinesModel", ck_11, by decide, w_711, Or.inl rfl⟩
theorem fl_Mo_104 : ev_FL "MeshLinesModel" 104 11 34 := ⟨_, _, _, "MeshLinesModel", ck_11, by decide, w_712, Or.inl rfl⟩
theorem fl_Mo_107 : ev_FL "MeshLinesModel" 107 11 35 := ⟨_, _, _, "MeshLinesModel", ck_11, by decide, w_713, Or.inl rfl⟩
theorem fl_Mo_110 : ev_FL "MeshLinesModel" 110 11 36 := ⟨_, _, _, "MeshLinesModel", ck_11, by decide, w_714, Or.inl rfl⟩
theorem fl_Mo_113 : ev_FL "MeshLinesModel" 113 11 37 := ⟨_, _, _, "MeshLinesModel", ck_11, by decide, w_715, Or.inl rfl⟩
theorem fl_Mo_116 : ev_FL "MeshLinesModel" 116 11 0 := ⟨_, _, _, "MeshLinesModel", ck_11, by decide, w_678, Or.inl rfl⟩
theorem fl_Mo_120 : ev_FL "MeshLinesModel" 120 11 1 := ⟨_, _, _, "MeshLinesModel", ck_11, by decide, w_679, Or.inl rfl⟩
theorem fl_Mo_127 : ev_FL "MeshLinesModel" 127 11 38 := ⟨_, _, _, "MeshLinesModel", ck_11, by decide, w_716, Or.inl rfl⟩
theorem fl_Mo_130 : ev_FL "MeshLinesModel" 130 11 2 := ⟨_, _, _, "MeshLinesModel", ck_11, by decide, w_680, Or.inl rfl⟩
theorem fl_Mo_155 : ev_FL "MeshLinesModel" 155 11 40 := ⟨_, _, _, "MeshLinesModel", ck_11, by decide, w_718, Or.inl rfl⟩
theorem fl_Mo_158 : ev_FL "MeshLinesModel" 158 11 39 := ⟨_, _, _, "MeshLinesModel", ck_11, by decide, w_717, Or.inl rfl⟩
theorem fl_AL_9 : ev_FL "java/util/ArrayList" 9 3 0 := ⟨_, _, _, "java/util/ArrayList", ck_3, by decide, w_66, Or.inl rfl⟩
theorem fl_AL_48 : ev_FL "java/util/ArrayList" 48 3 1 := ⟨_, _, _, "java/util/ArrayList", ck_3, by decide, w_67, Or.inl rfl⟩
theorem fl_AL_63 : ev_FL "java/util/ArrayList" 63 3 2 := ⟨_, _, _, "java/util/ArrayList", ck_3, by decide, w_69, Or.inr w_70⟩
theorem fw_ML_i_18 : ev_FW "MeshLines" "<init>" 18 0 0 := ⟨_, _, _, "MeshLines", ck_0, by decide, w_274, Or.inl rfl, Or.inr ⟨rfl, rfl, rfl⟩⟩
theorem fw_ML_i_24 : ev_FW "MeshLines" "<init>" 24 0 1 := ⟨_, _, _, "MeshLines", ck_0, by decide, w_275, Or.inl rfl, Or.inr ⟨rfl, rfl, rfl⟩⟩
theorem fw_ML_i_33 : ev_FW "MeshLines" "<init>" 33 0 2 := ⟨_, _, _, "MeshLines", ck_0, by decide, w_276, Or.inl rfl, Or.inr ⟨rfl, rfl, rfl⟩⟩
theorem fw_ML_run_54 : ev_FW "MeshLines" "run" 54 0 3 := ⟨_, _, _, "MeshLines", ck_0, by decide, w_277, Or.inl rfl, Or.inl rfl⟩
theorem fw_Ca_i_9 : ev_FW "MeshLines$Cache" "<init>" 9 7 2 := ⟨_, _, _, "MeshLines$Cache", ck_7, by decide, w_196, Or.inl rfl, Or.inr ⟨rfl, rfl, rfl⟩⟩
theorem fw_Ca_i_15 : ev_FW "MeshLines$Cache" "<init>" 15 7 3 := ⟨_, _, _, "MeshLines$Cache", ck_7, by decide, w_199, Or.inl rfl, Or.inr ⟨rfl, rfl, rfl⟩⟩
theorem fw_Ca_i_18 : ev_FW "MeshLines$Cache" "<init>" 18 7 4 := ⟨_, _, _, "MeshLines$Cache", ck_7, by decide, w_202, Or.inl rfl, Or.inr ⟨rfl, rfl, rfl⟩⟩
theorem fw_Ca_i_21 : ev_FW "MeshLines$Cache" "<init>" 21 7 5 := ⟨_, _, _, "MeshLines$Cache", ck_7, by decide, w_204, Or.inl rfl, Or.inr ⟨rfl, rfl, rfl⟩⟩
theorem fw_Ca_i_24 : ev_FW "MeshLines$Cache" "<init>" 24 7 0 := ⟨_, _, _, "MeshLines$Cache", ck_7, by decide, w_194, Or.inl rfl, Or.inr ⟨rfl, rfl, rfl⟩⟩
theorem fw_Ca_i_28 : ev_FW "MeshLines$Cache" "<init>" 28 7 1 := ⟨_, _, _, "MeshLines$Cache", ck_7, by decide, w_195, Or.inl rfl, Or.inr ⟨rfl, rfl, rfl⟩⟩
theorem fw_Co_i_9 : ev_FW "MeshLines$Core" "<init>" 9 8 1 := ⟨_, _, _, "MeshLines$Core", ck_8, by decide, w_227, Or.inl rfl, Or.inr ⟨rfl, rfl, rfl⟩⟩
theorem fw_Co_i_15 : ev_FW "MeshLines$Core" "<init>" 15 8 2 := ⟨_, _, _, "MeshLines$Core", ck_8, by decide, w_228, Or.inl rfl, Or.inr ⟨rfl, rfl, rfl⟩⟩
theorem fw_Co_i_18 : ev_FW "MeshLines$Core" "<init>" 18 8 3 := ⟨_, _, _, "MeshLines$Core", ck_8, by decide, w_229, Or.inl rfl, Or.inr ⟨rfl, rfl, rfl⟩⟩
theorem fw_Co_i_21 : ev_FW "MeshLines$Core" "<init>" 21 8 4 := ⟨_, _, _, "MeshLines$Core", ck_8, by decide, w_230, Or.inl rfl, Or.inr ⟨rfl, rfl, rfl⟩⟩
theorem fw_Co_i_24 : ev_FW "MeshLines$Core" "<init>" 24 8 5 := ⟨_, _, _, "MeshLines$Core", ck_8, by decide, w_231, Or.inl rfl, Or.inr ⟨rfl, rfl, rfl⟩⟩
theorem fw_Co_i_27 : ev_FW "MeshLines$Core" "<init>" 27 8 0 := ⟨_, _, _, "MeshLines$Core", ck_8, by decide, w_226, Or.inl rfl, Or.inr ⟨rfl, rfl, rfl⟩⟩
theorem fw_Co_append_31 : ev_FW "MeshLines$Core" "append" 31 8 6 := ⟨_, _, _, "MeshLines$Core", ck_8, by decide, w_233, Or.inl rfl, Or.inl rfl⟩
theorem fw_Co_finishPresent_35 : ev_FW "MeshLines$Core" "finishPresent" 35 8 7 := ⟨_, _, _, "MeshLines$Core", ck_8, by decide, w_234, Or.inl rfl, Or.inl rfl⟩
theorem fw_Co_finishPresent_38 : ev_FW "MeshLines$Core" "finishPresent" 38 8 8 := ⟨_, _, _, "MeshLines$Core", ck_8, by decide, w_236, Or.inl rfl, Or.inl rfl⟩
theorem fw_Fl_i_7 : ev_FW "MeshLines$Flit" "<init>" 7 9 0 := ⟨_, _, _, "MeshLines$Flit", ck_9, by decide, w_339, Or.inl rfl, Or.inr ⟨rfl, rfl, rfl⟩⟩
theorem fw_Fl_i_13 : ev_FW "MeshLines$Flit" "<init>" 13 9 1 := ⟨_, _, _, "MeshLines$Flit", ck_9, by decide, w_342, Or.inl rfl, Or.inr ⟨rfl, rfl, rfl⟩⟩
theorem fw_Fl_i_23 : ev_FW "MeshLines$Flit" "<init>" 23 9 2 := ⟨_, _, _, "MeshLines$Flit", ck_9, by decide, w_344, Or.inl rfl, Or.inr ⟨rfl, rfl, rfl⟩⟩
theorem fw_FB_i_9 : ev_FW "MeshLines$FlitBuffer" "<init>" 9 4 0 := ⟨_, _, _, "MeshLines$FlitBuffer", ck_4, by decide, w_87, Or.inl rfl, Or.inr ⟨rfl, rfl, rfl⟩⟩
theorem fw_FB_dropFront_15 : ev_FW "MeshLines$FlitBuffer" "dropFront" 15 4 1 := ⟨_, _, _, "MeshLines$FlitBuffer", ck_4, by decide, w_88, Or.inl rfl, Or.inl rfl⟩
theorem fw_FB_put_15 : ev_FW "MeshLines$FlitBuffer" "put" 15 4 1 := ⟨_, _, _, "MeshLines$FlitBuffer", ck_4, by decide, w_88, Or.inl rfl, Or.inl rfl⟩
theorem fw_FB_put_23 : ev_FW "MeshLines$FlitBuffer" "put" 23 9 3 := ⟨_, _, _, "MeshLines$Flit", ck_9, by decide, w_347, Or.inl rfl, Or.inl rfl⟩
theorem fw_Ho_i_11 : ev_FW "MeshLines$Home" "<init>" 11 5 3 := ⟨_, _, _, "MeshLines$Home", ck_5, by decide, w_158, Or.inl rfl, Or.inl rfl⟩
theorem fw_Ho_i_15 : ev_FW "MeshLines$Home" "<init>" 15 5 4 := ⟨_, _, _, "MeshLines$Home", ck_5, by decide, w_160, Or.inl rfl, Or.inl rfl⟩
theorem fw_Ho_i_18 : ev_FW "MeshLines$Home" "<init>" 18 5 0 := ⟨_, _, _, "MeshLines$Home", ck_5, by decide, w_155, Or.inl rfl, Or.inr ⟨rfl, rfl, rfl⟩⟩
theorem fw_Ho_i_25 : ev_FW "MeshLines$Home" "<init>" 25 5 1 := ⟨_, _, _, "MeshLines$Home", ck_5, by decide, w_156, Or.inl rfl, Or.inr ⟨rfl, rfl, rfl⟩⟩
theorem fw_Ho_i_28 : ev_FW "MeshLines$Home" "<init>" 28 5 2 := ⟨_, _, _, "MeshLines$Home", ck_5, by decide, w_157, Or.inl rfl, Or.inr ⟨rfl, rfl, rfl⟩⟩
theorem fw_Ho_dropSharer_11 : ev_FW "MeshLines$Home" "dropSharer" 11 5 3 := ⟨_, _, _, "MeshLines$Home", ck_5, by decide, w_158, Or.inl rfl, Or.inl rfl⟩
theorem fw_Ho_dropSharer_64 : ev_FW "MeshLines$Home" "dropSharer" 64 5 5 := ⟨_, _, _, "MeshLines$Home", ck_5, by decide, w_162, Or.inl rfl, Or.inl rfl⟩
theorem fw_Ho_take_11 : ev_FW "MeshLines$Home" "take" 11 5 3 := ⟨_, _, _, "MeshLines$Home", ck_5, by decide, w_158, Or.inl rfl, Or.inl rfl⟩
theorem fw_Ho_take_57 : ev_FW "MeshLines$Home" "take" 57 5 6 := ⟨_, _, _, "MeshLines$Home", ck_5, by decide, w_164, Or.inl rfl, Or.inl rfl⟩
theorem fw_Ho_takeGetm_11 : ev_FW "MeshLines$Home" "takeGetm" 11 5 3 := ⟨_, _, _, "MeshLines$Home", ck_5, by decide, w_158, Or.inl rfl, Or.inl rfl⟩
theorem fw_Ho_takeGetm_15 : ev_FW "MeshLines$Home" "takeGetm" 15 5 4 := ⟨_, _, _, "MeshLines$Home", ck_5, by decide, w_160, Or.inl rfl, Or.inl rfl⟩
theorem fw_Ho_takeGetm_64 : ev_FW "MeshLines$Home" "takeGetm" 64 5 5 := ⟨_, _, _, "MeshLines$Home", ck_5, by decide, w_162, Or.inl rfl, Or.inl rfl⟩
theorem fw_Ho_takeGets_11 : ev_FW "MeshLines$Home" "takeGets" 11 5 3 := ⟨_, _, _, "MeshLines$Home", ck_5, by decide, w_158, Or.inl rfl, Or.inl rfl⟩
theorem fw_Ho_takeGets_15 : ev_FW "MeshLines$Home" "takeGets" 15 5 4 := ⟨_, _, _, "MeshLines$Home", ck_5, by decide, w_160, Or.inl rfl, Or.inl rfl⟩
theorem fw_Ho_takeGets_64 : ev_FW "MeshLines$Home" "takeGets" 64 5 5 := ⟨_, _, _, "MeshLines$Home", ck_5, by decide, w_162, Or.inl rfl, Or.inl rfl⟩
theorem fw_Ho_takePutm_11 : ev_FW "MeshLines$Home" "takePutm" 11 5 3 := ⟨_, _, _, "MeshLines$Home", ck_5, by decide, w_158, Or.inl rfl, Or.inl rfl⟩
theorem fw_Ho_takePutm_15 : ev_FW "MeshLines$Home" "takePutm" 15 5 4 := ⟨_, _, _, "MeshLines$Home", ck_5, by decide, w_160, Or.inl rfl, Or.inl rfl⟩
theorem fw_Ho_takePutm_57 : ev_FW "MeshLines$Home" "takePutm" 57 5 6 := ⟨_, _, _, "MeshLines$Home", ck_5, by decide, w_164, Or.inl rfl, Or.inl rfl⟩
theorem fw_La_i_12 : ev_FW "MeshLines$Lane" "<init>" 12 2 1 := ⟨_, _, _, "MeshLines$Lane", ck_2, by decide, w_97, Or.inl rfl, Or.inr ⟨rfl, rfl, rfl⟩⟩
theorem fw_La_i_18 : ev_FW "MeshLines$Lane" "<init>" 18 2 2 := ⟨_, _, _, "MeshLines$Lane", ck_2, by decide, w_100, Or.inl rfl, Or.inr ⟨rfl, rfl, rfl⟩⟩
theorem fw_La_i_23 : ev_FW "MeshLines$Lane" "<init>" 23 2 3 := ⟨_, _, _, "MeshLines$Lane", ck_2, by decide, w_104, Or.inl rfl, Or.inr ⟨rfl, rfl, rfl⟩⟩
theorem fw_La_i_27 : ev_FW "MeshLines$Lane" "<init>" 27 2 4 := ⟨_, _, _, "MeshLines$Lane", ck_2, by decide, w_107, Or.inl rfl, Or.inr ⟨rfl, rfl, rfl⟩⟩
theorem fw_La_i_31 : ev_FW "MeshLines$Lane" "<init>" 31 2 5 := ⟨_, _, _, "MeshLines$Lane", ck_2, by decide, w_109, Or.inl rfl, Or.inr ⟨rfl, rfl, rfl⟩⟩
theorem fw_La_i_34 : ev_FW "MeshLines$Lane" "<init>" 34 2 0 := ⟨_, _, _, "MeshLines$Lane", ck_2, by decide, w_96, Or.inl rfl, Or.inr ⟨rfl, rfl, rfl⟩⟩
theorem fw_La_enterFlit_56 : ev_FW "MeshLines$Lane" "enterFlit" 56 2 6 := ⟨_, _, _, "MeshLines$Lane", ck_2, by decide, w_110, Or.inl rfl, Or.inl rfl⟩
theorem fw_Me_i_11 : ev_FW "MeshLines$Mesh" "<init>" 11 1 0 := ⟨_, _, _, "MeshLines$Mesh", ck_1, by decide, w_126, Or.inl rfl, Or.inr ⟨rfl, rfl, rfl⟩⟩
theorem fw_Me_i_17 : ev_FW "MeshLines$Mesh" "<init>" 17 1 1 := ⟨_, _, _, "MeshLines$Mesh", ck_1, by decide, w_127, Or.inl rfl, Or.inr ⟨rfl, rfl, rfl⟩⟩
theorem fw_Me_leaveMesh_54 : ev_FW "MeshLines$Mesh" "leaveMesh" 54 1 3 := ⟨_, _, _, "MeshLines$Mesh", ck_1, by decide, w_130, Or.inl rfl, Or.inl rfl⟩
theorem fw_Me_moveFlitOf_100 : ev_FW "MeshLines$Mesh" "moveFlitOf" 100 1 4 := ⟨_, _, _, "MeshLines$Mesh", ck_1, by decide, w_132, Or.inl rfl, Or.inl rfl⟩
theorem fw_Me_send_47 : ev_FW "MeshLines$Mesh" "send" 47 1 2 := ⟨_, _, _, "MeshLines$Mesh", ck_1, by decide, w_128, Or.inl rfl, Or.inl rfl⟩
theorem fw_No_i_9 : ev_FW "MeshLines$Node" "<init>" 9 6 0 := ⟨_, _, _, "MeshLines$Node", ck_6, by decide, w_256, Or.inl rfl, Or.inr ⟨rfl, rfl, rfl⟩⟩
theorem fw_No_i_15 : ev_FW "MeshLines$Node" "<init>" 15 6 1 := ⟨_, _, _, "MeshLines$Node", ck_6, by decide, w_257, Or.inl rfl, Or.inr ⟨rfl, rfl, rfl⟩⟩
theorem fw_No_i_19 : ev_FW "MeshLines$Node" "<init>" 19 6 2 := ⟨_, _, _, "MeshLines$Node", ck_6, by decide, w_258, Or.inl rfl, Or.inr ⟨rfl, rfl, rfl⟩⟩
theorem fw_No_i_28 : ev_FW "MeshLines$Node" "<init>" 28 6 3 := ⟨_, _, _, "MeshLines$Node", ck_6, by decide, w_259, Or.inl rfl, Or.inr ⟨rfl, rfl, rfl⟩⟩
theorem fw_No_i_37 : ev_FW "MeshLines$Node" "<init>" 37 6 4 := ⟨_, _, _, "MeshLines$Node", ck_6, by decide, w_261, Or.inl rfl, Or.inr ⟨rfl, rfl, rfl⟩⟩
theorem fw_Pa_i_9 : ev_FW "MeshLines$Packet" "<init>" 9 10 0 := ⟨_, _, _, "MeshLines$Packet", ck_10, by decide, w_528, Or.inl rfl, Or.inr ⟨rfl, rfl, rfl⟩⟩
theorem fw_Pa_i_15 : ev_FW "MeshLines$Packet" "<init>" 15 10 1 := ⟨_, _, _, "MeshLines$Packet", ck_10, by decide, w_531, Or.inl rfl, Or.inr ⟨rfl, rfl, rfl⟩⟩
theorem fw_Pa_i_18 : ev_FW "MeshLines$Packet" "<init>" 18 10 2 := ⟨_, _, _, "MeshLines$Packet", ck_10, by decide, w_534, Or.inl rfl, Or.inr ⟨rfl, rfl, rfl⟩⟩
theorem fw_Pa_i_21 : ev_FW "MeshLines$Packet" "<init>" 21 10 3 := ⟨_, _, _, "MeshLines$Packet", ck_10, by decide, w_536, Or.inl rfl, Or.inr ⟨rfl, rfl, rfl⟩⟩
theorem fw_Pa_i_24 : ev_FW "MeshLines$Packet" "<init>" 24 10 4 := ⟨_, _, _, "MeshLines$Packet", ck_10, by decide, w_539, Or.inl rfl, Or.inr ⟨rfl, rfl, rfl⟩⟩
theorem fw_Pa_i_27 : ev_FW "MeshLines$Packet" "<init>" 27 10 5 := ⟨_, _, _, "MeshLines$Packet", ck_10, by decide, w_542, Or.inl rfl, Or.inr ⟨rfl, rfl, rfl⟩⟩
theorem fw_Pa_i_30 : ev_FW "MeshLines$Packet" "<init>" 30 10 6 := ⟨_, _, _, "MeshLines$Packet", ck_10, by decide, w_545, Or.inl rfl, Or.inr ⟨rfl, rfl, rfl⟩⟩
theorem fw_Mo_i_7 : ev_FW "MeshLinesModel" "<init>" 7 11 3 := ⟨_, _, _, "MeshLinesModel", ck_11, by decide, w_681, Or.inl rfl, Or.inl rfl⟩
theorem fw_Mo_i_13 : ev_FW "MeshLinesModel" "<init>" 13 11 4 := ⟨_, _, _, "MeshLinesModel", ck_11, by decide, w_682, Or.inl rfl, Or.inl rfl⟩
theorem fw_Mo_i_17 : ev_FW "MeshLinesModel" "<init>" 17 11 5 := ⟨_, _, _, "MeshLinesModel", ck_11, by decide, w_683, Or.inl rfl, Or.inl rfl⟩
theorem fw_Mo_i_20 : ev_FW "MeshLinesModel" "<init>" 20 11 6 := ⟨_, _, _, "MeshLinesModel", ck_11, by decide, w_684, Or.inl rfl, Or.inl rfl⟩
theorem fw_Mo_i_23 : ev_FW "MeshLinesModel" "<init>" 23 11 7 := ⟨_, _, _, "MeshLinesModel", ck_11, by decide, w_685, Or.inl rfl, Or.inl rfl⟩
theorem fw_Mo_i_26 : ev_FW "MeshLinesModel" "<init>" 26 11 8 := ⟨_, _, _, "MeshLinesModel", ck_11, by decide, w_686, Or.inl rfl, Or.inl rfl⟩
theorem fw_Mo_i_29 : ev_FW "MeshLinesModel" "<init>" 29 11 9 := ⟨_, _, _, "MeshLinesModel", ck_11, by decide, w_687, Or.inl rfl, Or.inl rfl⟩
theorem fw_Mo_i_32 : ev_FW "MeshLinesModel" "<init>" 32 11 10 := ⟨_, _, _, "MeshLinesModel", ck_11, by decide, w_688, Or.inl rfl, Or.inl rfl⟩
theorem fw_Mo_i_35 : ev_FW "MeshLinesModel" "<init>" 35 11 11 := ⟨_, _, _, "MeshLinesModel", ck_11, by decide, w_689, Or.inl rfl, Or.inl rfl⟩
theorem fw_Mo_i_38 : ev_FW "MeshLinesModel" "<init>" 38 11 12 := ⟨_, _, _, "MeshLinesModel", ck_11, by decide, w_690, Or.inl rfl, Or.inl rfl⟩
theorem fw_Mo_i_41 : ev_FW "MeshLinesModel" "<init>" 41 11 13 := ⟨_, _, _, "MeshLinesModel", ck_11, by decide, w_691, Or.inl rfl, Or.inl rfl⟩
theorem fw_Mo_i_44 : ev_FW "MeshLinesModel" "<init>" 44 11 14 := ⟨_, _, _, "MeshLinesModel", ck_11, by decide, w_692, Or.inl rfl, Or.inl rfl⟩
theorem fw_Mo_i_47 : ev_FW "MeshLinesModel" "<init>" 47 11 15 := ⟨_, _, _, "MeshLinesModel", ck_11, by decide, w_693, Or.inl rfl, Or.inl rfl⟩
theorem fw_Mo_i_50 : ev_FW "MeshLinesModel" "<init>" 50 11 16 := ⟨_, _, _, "MeshLinesModel", ck_11, by decide, w_694, Or.inl rfl, Or.inl rfl⟩
theorem fw_Mo_i_53 : ev_FW "MeshLinesModel" "<init>" 53 11 17 := ⟨_, _, _, "MeshLinesModel", ck_11, by decide, w_695, Or.inl rfl, Or.inl rfl⟩
theorem fw_Mo_i_56 : ev_FW "MeshLinesModel" "<init>" 56 11 18 := ⟨_, _, _, "MeshLinesModel", ck_11, by decide, w_696, Or.inl rfl, Or.inl rfl⟩
theorem fw_Mo_i_59 : ev_FW "MeshLinesModel" "<init>" 59 11 19 := ⟨_, _, _, "MeshLinesModel", ck_11, by decide, w_697, Or.inl rfl, Or.inl rfl⟩
theorem fw_Mo_i_62 : ev_FW "MeshLinesModel" "<init>" 62 11 20 := ⟨_, _, _, "MeshLinesModel", ck_11, by decide, w_698, Or.inl rfl, Or.inl rfl⟩
theorem fw_Mo_i_65 : ev_FW "MeshLinesModel" "<init>" 65 11 21 := ⟨_, _, _, "MeshLinesModel", ck_11, by decide, w_699, Or.inl rfl, Or.inl rfl⟩
theorem fw_Mo_i_68 : ev_FW "MeshLinesModel" "<init>" 68 11 22 := ⟨_, _, _, "MeshLinesModel", ck_11, by decide, w_700, Or.inl rfl, Or.inl rfl⟩
theorem fw_Mo_i_71 : ev_FW "MeshLinesModel" "<init>" 71 11 23 := ⟨_, _, _, "MeshLinesModel", ck_11, by decide, w_701, Or.inl rfl, Or.inl rfl⟩
theorem fw_Mo_i_74 : ev_FW "MeshLinesModel" "<init>" 74 11 24 := ⟨_, _, _, "MeshLinesModel", ck_11, by decide, w_702, Or.inl rfl, Or.inl rfl⟩
theorem fw_Mo_i_77 : ev_FW "MeshLinesModel" "<init>" 77 11 25 := ⟨_, _, _, "MeshLinesModel", ck_11, by decide, w_703, Or.inl rfl, Or.inl rfl⟩
theorem fw_Mo_i_80 : ev_FW "MeshLinesModel" "<init>" 80 11 26 := ⟨_, _, _, "MeshLinesModel", ck_11, by decide, w_704, Or.inl rfl, Or.inl rfl⟩
theorem fw_Mo_i_83 : ev_FW "MeshLinesModel" "<init>" 83 11 27 := ⟨_, _, _, "MeshLinesModel", ck_11, by decide, w_705, Or.inl rfl, Or.inl rfl⟩
theorem fw_Mo_i_86 : ev_FW "MeshLinesModel" "<init>" 86 11 28 := ⟨_, _, _, "MeshLinesModel", ck_11, by decide, w_706, Or.inl rfl, Or.inl rfl⟩
theorem fw_Mo_i_89 : ev_FW "MeshLinesModel" "<init>" 89 11 29 := ⟨_, _, _, "MeshLinesModel", ck_11, by decide, w_707, Or.inl rfl, Or.inl rfl⟩
theorem fw_Mo_i_92 : ev_FW "MeshLinesModel" "<init>" 92 11 30 := ⟨_, _, _, "MeshLinesModel", ck_11, by decide, w_708, Or.inl rfl, Or.inl rfl⟩
theorem fw_Mo_i_95 : ev_FW "MeshLinesModel" "<init>" 95 11 31 := ⟨_, _, _, "MeshLinesModel", ck_11, by decide, w_709, Or.inl rfl, Or.inl rfl⟩
theorem fw_Mo_i_98 : ev_FW "MeshLinesModel" "<init>" 98 11 32 := ⟨_, _, _, "MeshLinesModel", ck_11, by decide, w_710, Or.inl rfl, Or.inl rfl⟩
theorem fw_Mo_i_101 : ev_FW "MeshLinesModel" "<init>" 101 11 33 := ⟨_, _, _, "MeshLinesModel", ck_11, by decide, w_711, Or.inl rfl, Or.inl rfl⟩
theorem fw_Mo_i_104 : ev_FW "MeshLinesModel" "<init>" 104 11 34 := ⟨_, _, _, "MeshLinesModel", ck_11, by decide, w_712, Or.inl rfl, Or.inl rfl⟩
theorem fw_Mo_i_107 : ev_FW "MeshLinesModel" "<init>" 107 11 35 := ⟨_, _, _, "MeshLinesModel", ck_11, by decide, w_713, Or.inl rfl, Or.inl rfl⟩
theorem fw_Mo_i_110 : ev_FW "MeshLinesModel" "<init>" 110 11 36 := ⟨_, _, _, "MeshLinesModel", ck_11, by decide, w_714, Or.inl rfl, Or.inl rfl⟩
theorem fw_Mo_i_113 : ev_FW "MeshLinesModel" "<init>" 113 11 37 := ⟨_, _, _, "MeshLinesModel", ck_11, by decide, w_715, Or.inl rfl, Or.inl rfl⟩
theorem fw_Mo_i_116 : ev_FW "MeshLinesModel" "<init>" 116 11 0 := ⟨_, _, _, "MeshLinesModel", ck_11, by decide, w_678, Or.inl rfl, Or.inr ⟨rfl, rfl, rfl⟩⟩
theorem fw_Mo_i_120 : ev_FW "MeshLinesModel" "<init>" 120 11 1 := ⟨_, _, _, "MeshLinesModel", ck_11, by decide, w_679, Or.inl rfl, Or.inr ⟨rfl, rfl, rfl⟩⟩
theorem fw_Mo_moves_155 : ev_FW "MeshLinesModel" "moves" 155 11 40 := ⟨_, _, _, "MeshLinesModel", ck_11, by decide, w_718, Or.inl rfl, Or.inl rfl⟩
theorem fw_Mo_moves_158 : ev_FW "MeshLinesModel" "moves" 158 11 39 := ⟨_, _, _, "MeshLinesModel", ck_11, by decide, w_717, Or.inl rfl, Or.inl rfl⟩
theorem fw_Mo_oneCycle_130 : ev_FW "MeshLinesModel" "oneCycle" 130 11 2 := ⟨_, _, _, "MeshLinesModel", ck_11, by decide, w_680, Or.inl rfl, Or.inl rfl⟩
theorem fw_Mo_send_127 : ev_FW "MeshLinesModel" "send" 127 11 38 := ⟨_, _, _, "MeshLinesModel", ck_11, by decide, w_716, Or.inl rfl, Or.inl rfl⟩
theorem fw_Al_i_7 : ev_FW "java/util/AbstractList" "<init>" 7 3 2 := ⟨_, _, _, "java/util/AbstractList", ck_3, by decide, w_68, Or.inl rfl, Or.inl rfl⟩
theorem fw_AL_i_9 : ev_FW "java/util/ArrayList" "<init>" 9 3 0 := ⟨_, _, _, "java/util/ArrayList", ck_3, by decide, w_66, Or.inl rfl, Or.inl rfl⟩
theorem fw_AL_add_48 : ev_FW "java/util/ArrayList" "add" 48 3 1 := ⟨_, _, _, "java/util/ArrayList", ck_3, by decide, w_67, Or.inl rfl, Or.inl rfl⟩
theorem fw_AL_add_63 : ev_FW "java/util/ArrayList" "add" 63 3 2 := ⟨_, _, _, "java/util/ArrayList", ck_3, by decide, w_69, Or.inr w_70, Or.inl rfl⟩
theorem fw_AL_fastRemove_48 : ev_FW "java/util/ArrayList" "fastRemove" 48 3 1 := ⟨_, _, _, "java/util/ArrayList", ck_3, by decide, w_67, Or.inl rfl, Or.inl rfl⟩
theorem fw_AL_fastRemove_63 : ev_FW "java/util/ArrayList" "fastRemove" 63 3 2 := ⟨_, _, _, "java/util/ArrayList", ck_3, by decide, w_69, Or.inr w_70, Or.inl rfl⟩
theorem fw_AL_grow_9 : ev_FW "java/util/ArrayList" "grow" 9 3 0 := ⟨_, _, _, "java/util/ArrayList", ck_3, by decide, w_66, Or.inl rfl, Or.inl rfl⟩
theorem cb_ML_nearest : ev_CB M_ML_nearest 3 := ⟨w_34, w_1, ⟨by decide, by decide, by decide +kernel⟩, by decide, by decide +kernel⟩
theorem cb_Me_init : ev_CB M_Me_init 2 := ⟨w_43, w_2, ⟨by decide, by decide, by decide +kernel⟩, by decide, by decide +kernel⟩
theorem cb_Ho_init : ev_CB M_Ho_init 2 := ⟨w_150, w_9, ⟨by decide, by decide, by decide +kernel⟩, by decide, by decide +kernel⟩
theorem cb_No_init : ev_CB M_No_init 3 := ⟨w_186, w_10, ⟨by decide, by decide, by decide +kernel⟩, by decide, by decide +kernel⟩
theorem cb_ML_isBelow : ev_CB M_ML_isBelow 2 := ⟨w_293, w_1, ⟨by decide, by decide, by decide +kernel⟩, by decide, by decide +kernel⟩
theorem cb_Co_append : ev_CB M_Co_append 4 := ⟨w_297, w_12, ⟨by decide, by decide, by decide +kernel⟩, by decide, by decide +kernel⟩
theorem cb_Me_enterFlits : ev_CB M_Me_enterFlits 1 := ⟨w_305, w_2, ⟨by decide, by decide, by decide +kernel⟩, by decide, by decide +kernel⟩
theorem cb_Me_moveFlits : ev_CB M_Me_moveFlits 1 := ⟨w_377, w_2, ⟨by decide, by decide, by decide +kernel⟩, by decide, by decide +kernel⟩
theorem cb_No_takePackets : ev_CB M_No_takePackets 1 := ⟨w_477, w_10, ⟨by decide, by decide, by decide +kernel⟩, by decide, by decide +kernel⟩
theorem cb_Co_act : ev_CB M_Co_act 1 := ⟨w_620, w_12, ⟨by decide, by decide, by decide +kernel⟩, by decide, by decide +kernel⟩
theorem cb_Me_laneOf : ev_CB M_Me_laneOf 2 := ⟨w_389, w_2, ⟨by decide, by decide, by decide +kernel⟩, by decide, by decide +kernel⟩
theorem cb_AL_size : ev_CB M_AL_size 0 := ⟨w_486, w_7, ⟨by decide, by decide, by decide +kernel⟩, by decide, by decide +kernel⟩
theorem cb_Ma_min : ev_CB M_Ma_min 2 := ⟨w_37, w_3, ⟨by decide, by decide, by decide +kernel⟩, by decide, by decide +kernel⟩
theorem cb_Ma_max : ev_CB M_Ma_max 2 := ⟨w_40, w_3, ⟨by decide, by decide, by decide +kernel⟩, by decide, by decide +kernel⟩
theorem cb_Ca_takeData : ev_CB M_Ca_takeData 1 := ⟨w_594, w_11, ⟨by decide, by decide, by decide +kernel⟩, by decide, by decide +kernel⟩
theorem cb_Ca_takeAck : ev_CB M_Ca_takeAck 1 := ⟨w_598, w_11, ⟨by decide, by decide, by decide +kernel⟩, by decide, by decide +kernel⟩
theorem cb_Ca_takeInv : ev_CB M_Ca_takeInv 1 := ⟨w_602, w_11, ⟨by decide, by decide, by decide +kernel⟩, by decide, by decide +kernel⟩
theorem cb_Ca_become : ev_CB M_Ca_become 2 := ⟨w_606, w_11, ⟨by decide, by decide, by decide +kernel⟩, by decide, by decide +kernel⟩
theorem cb_Ca_giveData : ev_CB M_Ca_giveData 3 := ⟨w_611, w_11, ⟨by decide, by decide, by decide +kernel⟩, by decide, by decide +kernel⟩
theorem cb_ML_homeOf : ev_CB M_ML_homeOf 1 := ⟨w_154, w_1, ⟨by decide, by decide, by decide +kernel⟩, by decide, by decide +kernel⟩
theorem cb_Me_send : ev_CB M_Me_send 7 := ⟨w_521, w_2, ⟨by decide, by decide, by decide +kernel⟩, by decide, by decide +kernel⟩
theorem cb_Ca_ask : ev_CB M_Ca_ask 3 := ⟨w_625, w_11, ⟨by decide, by decide, by decide +kernel⟩, by decide, by decide +kernel⟩
theorem cb_Co_finishPresent : ev_CB M_Co_finishPresent 1 := ⟨w_616, w_12, ⟨by decide, by decide, by decide +kernel⟩, by decide, by decide +kernel⟩
theorem cb_Co_fetch : ev_CB M_Co_fetch 2 := ⟨w_629, w_12, ⟨by decide, by decide, by decide +kernel⟩, by decide, by decide +kernel⟩
theorem cb_Ca_hasRoomFor : ev_CB M_Ca_hasRoomFor 1 := ⟨w_633, w_11, ⟨by decide, by decide, by decide +kernel⟩, by decide, by decide +kernel⟩
theorem cb_Ca_makeRoomFor : ev_CB M_Ca_makeRoomFor 1 := ⟨w_637, w_11, ⟨by decide, by decide, by decide +kernel⟩, by decide, by decide +kernel⟩
theorem cb_FB_hasRoom : ev_CB M_FB_hasRoom 0 := ⟨w_317, w_8, ⟨by decide, by decide, by decide +kernel⟩, by decide, by decide +kernel⟩
theorem cb_Ho_takeGets : ev_CB M_Ho_takeGets 1 := ⟨w_517, w_9, ⟨by decide, by decide, by decide +kernel⟩, by decide, by decide +kernel⟩
theorem cb_Ho_takeGetm : ev_CB M_Ho_takeGetm 1 := ⟨w_568, w_9, ⟨by decide, by decide, by decide +kernel⟩, by decide, by decide +kernel⟩
theorem cb_Ho_takePuts : ev_CB M_Ho_takePuts 1 := ⟨w_578, w_9, ⟨by decide, by decide, by decide +kernel⟩, by decide, by decide +kernel⟩
theorem cb_Ho_takePutm : ev_CB M_Ho_takePutm 2 := ⟨w_586, w_9, ⟨by decide, by decide, by decide +kernel⟩, by decide, by decide +kernel⟩
theorem cb_In_bitCount : ev_CB M_In_bitCount 1 := ⟨w_571, w_21, ⟨by decide, by decide, by decide +kernel⟩, by decide, by decide +kernel⟩
theorem cb_Ho_dropSharer : ev_CB M_Ho_dropSharer 1 := ⟨w_582, w_9, ⟨by decide, by decide, by decide +kernel⟩, by decide, by decide +kernel⟩
theorem cb_AL_init : ev_CB M_AL_init 0 := ⟨w_56, w_7, ⟨by decide, by decide, by decide +kernel⟩, by decide, by decide +kernel⟩
theorem cb_FB_init : ev_CB M_FB_init 1 := ⟨w_83, w_8, ⟨by decide, by decide, by decide +kernel⟩, by decide, by decide +kernel⟩
theorem cb_AL_isEmpty : ev_CB M_AL_isEmpty 0 := ⟨w_313, w_7, ⟨by decide, by decide, by decide +kernel⟩, by decide, by decide +kernel⟩
theorem cb_AL_get : ev_CB M_AL_get 1 := ⟨w_323, w_7, ⟨by decide, by decide, by decide +kernel⟩, by decide, by decide +kernel⟩
theorem cb_Fl_init : ev_CB M_Fl_init 2 := ⟨w_337, w_14, ⟨by decide, by decide, by decide +kernel⟩, by decide, by decide +kernel⟩
theorem cb_FB_put : ev_CB M_FB_put 2 := ⟨w_361, w_8, ⟨by decide, by decide, by decide +kernel⟩, by decide, by decide +kernel⟩
theorem cb_AL_remove : ev_CB M_AL_remove 1 := ⟨w_366, w_7, ⟨by decide, by decide, by decide +kernel⟩, by decide, by decide +kernel⟩
theorem cb_FB_front : ev_CB M_FB_front 0 := ⟨w_397, w_8, ⟨by decide, by decide, by decide +kernel⟩, by decide, by decide +kernel⟩
theorem cb_La_wayTo : ev_CB M_La_wayTo 1 := ⟨w_401, w_4, ⟨by decide, by decide, by decide +kernel⟩, by decide, by decide +kernel⟩
theorem cb_FB_dropFront : ev_CB M_FB_dropFront 0 := ⟨w_473, w_8, ⟨by decide, by decide, by decide +kernel⟩, by decide, by decide +kernel⟩
theorem cb_La_init : ev_CB M_La_init 2 := ⟨w_50, w_4, ⟨by decide, by decide, by decide +kernel⟩, by decide, by decide +kernel⟩
theorem cb_Pa_init : ev_CB M_Pa_init 7 := ⟨w_526, w_20, ⟨by decide, by decide, by decide +kernel⟩, by decide, by decide +kernel⟩
theorem cb_Pa_channel : ev_CB M_Pa_channel 0 := ⟨w_564, w_20, ⟨by decide, by decide, by decide +kernel⟩, by decide, by decide +kernel⟩
theorem cb_AL_add1 : ev_CB M_AL_add1 1 := ⟨w_410, w_7, ⟨by decide, by decide, by decide +kernel⟩, by decide, by decide +kernel⟩
theorem cb_La_enterFlit : ev_CB M_La_enterFlit 1 := ⟨w_309, w_4, ⟨by decide, by decide, by decide +kernel⟩, by decide, by decide +kernel⟩
theorem cb_Me_moveOneFlit : ev_CB M_Me_moveOneFlit 3 := ⟨w_381, w_2, ⟨by decide, by decide, by decide +kernel⟩, by decide, by decide +kernel⟩
theorem cb_Me_moveFlitOf : ev_CB M_Me_moveFlitOf 4 := ⟨w_385, w_2, ⟨by decide, by decide, by decide +kernel⟩, by decide, by decide +kernel⟩
theorem cb_La_portFor : ev_CB M_La_portFor 1 := ⟨w_393, w_4, ⟨by decide, by decide, by decide +kernel⟩, by decide, by decide +kernel⟩
theorem cb_Me_leaveMesh : ev_CB M_Me_leaveMesh 2 := ⟨w_406, w_2, ⟨by decide, by decide, by decide +kernel⟩, by decide, by decide +kernel⟩
theorem cb_Me_bufferBeyond : ev_CB M_Me_bufferBeyond 3 := ⟨w_463, w_2, ⟨by decide, by decide, by decide +kernel⟩, by decide, by decide +kernel⟩
theorem cb_La_dropFront : ev_CB M_La_dropFront 2 := ⟨w_469, w_4, ⟨by decide, by decide, by decide +kernel⟩, by decide, by decide +kernel⟩
theorem cb_Ca_init : ev_CB M_Ca_init 2 := ⟨w_192, w_11, ⟨by decide, by decide, by decide +kernel⟩, by decide, by decide +kernel⟩
theorem cb_Co_init : ev_CB M_Co_init 1 := ⟨w_224, w_12, ⟨by decide, by decide, by decide +kernel⟩, by decide, by decide +kernel⟩
theorem cb_No_firstToTake : ev_CB M_No_firstToTake 1 := ⟨w_482, w_10, ⟨by decide, by decide, by decide +kernel⟩, by decide, by decide +kernel⟩
theorem cb_No_take : ev_CB M_No_take 2 := ⟨w_509, w_10, ⟨by decide, by decide, by decide +kernel⟩, by decide, by decide +kernel⟩
theorem cb_No_stalls : ev_CB M_No_stalls 1 := ⟨w_492, w_10, ⟨by decide, by decide, by decide +kernel⟩, by decide, by decide +kernel⟩
theorem cb_Pa_isForHome : ev_CB M_Pa_isForHome 0 := ⟨w_496, w_20, ⟨by decide, by decide, by decide +kernel⟩, by decide, by decide +kernel⟩
theorem cb_Ho_stalls : ev_CB M_Ho_stalls 1 := ⟨w_500, w_9, ⟨by decide, by decide, by decide +kernel⟩, by decide, by decide +kernel⟩
theorem cb_Ca_stalls : ev_CB M_Ca_stalls 1 := ⟨w_504, w_11, ⟨by decide, by decide, by decide +kernel⟩, by decide, by decide +kernel⟩
theorem cb_Ho_take : ev_CB M_Ho_take 1 := ⟨w_513, w_9, ⟨by decide, by decide, by decide +kernel⟩, by decide, by decide +kernel⟩
theorem cb_Ca_take : ev_CB M_Ca_take 1 := ⟨w_590, w_11, ⟨by decide, by decide, by decide +kernel⟩, by decide, by decide +kernel⟩
theorem cb_Lw_cell : ev_CB M_Lw_cell 2 := ⟨w_671, w_0, ⟨by decide, by decide, by decide +kernel⟩, by decide, by decide +kernel⟩
theorem cb_ML_init : ev_CB M_ML_init 2 := ⟨w_26, w_1, ⟨by decide, by decide, by decide +kernel⟩, by decide, by decide +kernel⟩
theorem cb_Mo_init : ev_CB M_Mo_init 2 := ⟨w_676, w_13, ⟨by decide, by decide, by decide +kernel⟩, by decide, by decide +kernel⟩
theorem cb_ML_operation : ev_CB M_ML_operation 5 := ⟨w_290, w_1, ⟨by decide, by decide, by decide +kernel⟩, by decide, by decide +kernel⟩
theorem cb_Mo_operation : ev_CB M_Mo_operation 5 := ⟨w_806, w_13, ⟨by decide, by decide, by decide +kernel⟩, by decide, by decide +kernel⟩
theorem cb_ML_run : ev_CB M_ML_run 1 := ⟨w_301, w_1, ⟨by decide, by decide, by decide +kernel⟩, by decide, by decide +kernel⟩
theorem cb_Mo_run : ev_CB M_Mo_run 1 := ⟨w_816, w_13, ⟨by decide, by decide, by decide +kernel⟩, by decide, by decide +kernel⟩
theorem cb_ML_result : ev_CB M_ML_result 2 := ⟨w_642, w_1, ⟨by decide, by decide, by decide +kernel⟩, by decide, by decide +kernel⟩
theorem cb_Mo_result : ev_CB M_Mo_result 2 := ⟨w_927, w_13, ⟨by decide, by decide, by decide +kernel⟩, by decide, by decide +kernel⟩
theorem cb_ML_done : ev_CB M_ML_done 1 := ⟨w_646, w_1, ⟨by decide, by decide, by decide +kernel⟩, by decide, by decide +kernel⟩
theorem cb_Mo_done : ev_CB M_Mo_done 1 := ⟨w_931, w_13, ⟨by decide, by decide, by decide +kernel⟩, by decide, by decide +kernel⟩
theorem cb_ML_cache : ev_CB M_ML_cache 3 := ⟨w_650, w_1, ⟨by decide, by decide, by decide +kernel⟩, by decide, by decide +kernel⟩
theorem cb_Mo_cache : ev_CB M_Mo_cache 3 := ⟨w_935, w_13, ⟨by decide, by decide, by decide +kernel⟩, by decide, by decide +kernel⟩
theorem cb_ML_home : ev_CB M_ML_home 2 := ⟨w_654, w_1, ⟨by decide, by decide, by decide +kernel⟩, by decide, by decide +kernel⟩
theorem cb_Mo_home : ev_CB M_Mo_home 2 := ⟨w_939, w_13, ⟨by decide, by decide, by decide +kernel⟩, by decide, by decide +kernel⟩
theorem cb_ML_buffer : ev_CB M_ML_buffer 3 := ⟨w_658, w_1, ⟨by decide, by decide, by decide +kernel⟩, by decide, by decide +kernel⟩
theorem cb_Mo_buffer : ev_CB M_Mo_buffer 3 := ⟨w_943, w_13, ⟨by decide, by decide, by decide +kernel⟩, by decide, by decide +kernel⟩
theorem cb_ML_held : ev_CB M_ML_held 3 := ⟨w_664, w_1, ⟨by decide, by decide, by decide +kernel⟩, by decide, by decide +kernel⟩
theorem cb_Mo_held : ev_CB M_Mo_held 3 := ⟨w_947, w_13, ⟨by decide, by decide, by decide +kernel⟩, by decide, by decide +kernel⟩
theorem cb_ML_count : ev_CB M_ML_count 1 := ⟨w_668, w_1, ⟨by decide, by decide, by decide +kernel⟩, by decide, by decide +kernel⟩
theorem cb_Mo_count : ev_CB M_Mo_count 1 := ⟨w_951, w_13, ⟨by decide, by decide, by decide +kernel⟩, by decide, by decide +kernel⟩
theorem cb_Mo_channelOf : ev_CB M_Mo_channelOf 1 := ⟨w_873, w_13, ⟨by decide, by decide, by decide +kernel⟩, by decide, by decide +kernel⟩
theorem cb_Mo_append : ev_CB M_Mo_append 3 := ⟨w_828, w_13, ⟨by decide, by decide, by decide +kernel⟩, by decide, by decide +kernel⟩
theorem cb_Mo_sizeOf : ev_CB M_Mo_sizeOf 1 := ⟨w_832, w_13, ⟨by decide, by decide, by decide +kernel⟩, by decide, by decide +kernel⟩
theorem cb_Mo_way : ev_CB M_Mo_way 2 := ⟨w_843, w_13, ⟨by decide, by decide, by decide +kernel⟩, by decide, by decide +kernel⟩
theorem cb_Mo_served : ev_CB M_Mo_served 3 := ⟨w_840, w_13, ⟨by decide, by decide, by decide +kernel⟩, by decide, by decide +kernel⟩
theorem cb_Mo_neighbour : ev_CB M_Mo_neighbour 2 := ⟨w_846, w_13, ⟨by decide, by decide, by decide +kernel⟩, by decide, by decide +kernel⟩
theorem cb_Mo_removeFront : ev_CB M_Mo_removeFront 1 := ⟨w_850, w_13, ⟨by decide, by decide, by decide +kernel⟩, by decide, by decide +kernel⟩
theorem cb_Mo_finish : ev_CB M_Mo_finish 2 := ⟨w_908, w_13, ⟨by decide, by decide, by decide +kernel⟩, by decide, by decide +kernel⟩
theorem cb_Mo_send : ev_CB M_Mo_send 7 := ⟨w_870, w_13, ⟨by decide, by decide, by decide +kernel⟩, by decide, by decide +kernel⟩
theorem cb_Mo_homeOf : ev_CB M_Mo_homeOf 1 := ⟨w_892, w_13, ⟨by decide, by decide, by decide +kernel⟩, by decide, by decide +kernel⟩
theorem cb_Mo_become : ev_CB M_Mo_become 3 := ⟨w_904, w_13, ⟨by decide, by decide, by decide +kernel⟩, by decide, by decide +kernel⟩
theorem cb_Mo_gone : ev_CB M_Mo_gone 2 := ⟨w_881, w_13, ⟨by decide, by decide, by decide +kernel⟩, by decide, by decide +kernel⟩
theorem cb_Mo_gets : ev_CB M_Mo_gets 3 := ⟨w_866, w_13, ⟨by decide, by decide, by decide +kernel⟩, by decide, by decide +kernel⟩
theorem cb_Mo_getm : ev_CB M_Mo_getm 3 := ⟨w_877, w_13, ⟨by decide, by decide, by decide +kernel⟩, by decide, by decide +kernel⟩
theorem cb_Mo_putm : ev_CB M_Mo_putm 3 := ⟨w_885, w_13, ⟨by decide, by decide, by decide +kernel⟩, by decide, by decide +kernel⟩
theorem cb_Mo_forward : ev_CB M_Mo_forward 3 := ⟨w_889, w_13, ⟨by decide, by decide, by decide +kernel⟩, by decide, by decide +kernel⟩
theorem cb_Mo_invalidate : ev_CB M_Mo_invalidate 2 := ⟨w_896, w_13, ⟨by decide, by decide, by decide +kernel⟩, by decide, by decide +kernel⟩
theorem cb_Mo_data : ev_CB M_Mo_data 2 := ⟨w_900, w_13, ⟨by decide, by decide, by decide +kernel⟩, by decide, by decide +kernel⟩
theorem cb_Mo_acknowledged : ev_CB M_Mo_acknowledged 2 := ⟨w_912, w_13, ⟨by decide, by decide, by decide +kernel⟩, by decide, by decide +kernel⟩
theorem cb_Mo_isBehind : ev_CB M_Mo_isBehind 2 := ⟨w_858, w_13, ⟨by decide, by decide, by decide +kernel⟩, by decide, by decide +kernel⟩
theorem cb_Mo_takes : ev_CB M_Mo_takes 2 := ⟨w_862, w_13, ⟨by decide, by decide, by decide +kernel⟩, by decide, by decide +kernel⟩
theorem cb_Mo_isLeaving : ev_CB M_Mo_isLeaving 1 := ⟨w_923, w_13, ⟨by decide, by decide, by decide +kernel⟩, by decide, by decide +kernel⟩
theorem cb_Mo_evict : ev_CB M_Mo_evict 2 := ⟨w_920, w_13, ⟨by decide, by decide, by decide +kernel⟩, by decide, by decide +kernel⟩
theorem cb_Mo_inject : ev_CB M_Mo_inject 2 := ⟨w_824, w_13, ⟨by decide, by decide, by decide +kernel⟩, by decide, by decide +kernel⟩
theorem cb_Mo_moves : ev_CB M_Mo_moves 3 := ⟨w_836, w_13, ⟨by decide, by decide, by decide +kernel⟩, by decide, by decide +kernel⟩
theorem cb_Mo_takeFirst : ev_CB M_Mo_takeFirst 2 := ⟨w_854, w_13, ⟨by decide, by decide, by decide +kernel⟩, by decide, by decide +kernel⟩
theorem cb_Mo_core : ev_CB M_Mo_core 1 := ⟨w_916, w_13, ⟨by decide, by decide, by decide +kernel⟩, by decide, by decide +kernel⟩
theorem cb_Mo_isNode : ev_CB M_Mo_isNode 1 := ⟨w_809, w_13, ⟨by decide, by decide, by decide +kernel⟩, by decide, by decide +kernel⟩
theorem cb_Mo_isLine : ev_CB M_Mo_isLine 1 := ⟨w_812, w_13, ⟨by decide, by decide, by decide +kernel⟩, by decide, by decide +kernel⟩
theorem cb_Mo_oneCycle : ev_CB M_Mo_oneCycle 0 := ⟨w_820, w_13, ⟨by decide, by decide, by decide +kernel⟩, by decide, by decide +kernel⟩
theorem cb_Ac_init : ev_CB M_Ac_init 0 := ⟨w_62, w_5, ⟨by decide, by decide, by decide +kernel⟩, by decide, by decide +kernel⟩
theorem cb_Al_init : ev_CB M_Al_init 0 := ⟨w_59, w_6, ⟨by decide, by decide, by decide +kernel⟩, by decide, by decide +kernel⟩
theorem cb_Ar_copyOf2 : ev_CB M_Ar_copyOf2 2 := ⟨w_433, w_19, ⟨by decide, by decide, by decide +kernel⟩, by decide, by decide +kernel⟩
theorem cb_AL_grow1 : ev_CB M_AL_grow1 1 := ⟨w_422, w_7, ⟨by decide, by decide, by decide +kernel⟩, by decide, by decide +kernel⟩
theorem cb_As_newLength : ev_CB M_As_newLength 3 := ⟨w_425, w_18, ⟨by decide, by decide, by decide +kernel⟩, by decide, by decide +kernel⟩
theorem cb_Os_checkIndex : ev_CB M_Os_checkIndex 2 := ⟨w_326, w_15, ⟨by decide, by decide, by decide +kernel⟩, by decide, by decide +kernel⟩
theorem cb_AL_elementData : ev_CB M_AL_elementData 1 := ⟨w_333, w_7, ⟨by decide, by decide, by decide +kernel⟩, by decide, by decide +kernel⟩
theorem cb_AL_grow0 : ev_CB M_AL_grow0 0 := ⟨w_418, w_7, ⟨by decide, by decide, by decide +kernel⟩, by decide, by decide +kernel⟩
theorem cb_AL_add3 : ev_CB M_AL_add3 3 := ⟨w_414, w_7, ⟨by decide, by decide, by decide +kernel⟩, by decide, by decide +kernel⟩
theorem cb_AL_fastRemove : ev_CB M_AL_fastRemove 2 := ⟨w_370, w_7, ⟨by decide, by decide, by decide +kernel⟩, by decide, by decide +kernel⟩
theorem cb_Ar_copyOf3 : ev_CB M_Ar_copyOf3 3 := ⟨w_452, w_19, ⟨by decide, by decide, by decide +kernel⟩, by decide, by decide +kernel⟩
theorem cb_Pr_checkIndex : ev_CB M_Pr_checkIndex 3 := ⟨w_329, w_16, ⟨by decide, by decide, by decide +kernel⟩, by decide, by decide +kernel⟩
theorem cb_As_hugeLength : ev_CB M_As_hugeLength 2 := ⟨w_430, w_18, ⟨by decide, by decide, by decide +kernel⟩, by decide, by decide +kernel⟩
theorem cs_ML_9 : ev_CS "MeshLines" 9 M_ML_nearest 3 := ⟨cb_ML_nearest, w_32, w_33⟩
theorem ci_ML_15 : ev_CI "MeshLines" 15 M_Me_init 2 := ⟨cb_Me_init, w_41, w_42, rfl, rfl⟩
theorem ci_ML_28 : ev_CI "MeshLines" 28 M_Ho_init 2 := ⟨cb_Ho_init, w_148, w_149, rfl, rfl⟩
theorem ci_ML_37 : ev_CI "MeshLines" 37 M_No_init 3 := ⟨cb_No_init, w_184, w_185, rfl, rfl⟩
theorem cs_ML_40 : ev_CS "MeshLines" 40 M_ML_isBelow 2 := ⟨cb_ML_isBelow, w_291, w_292⟩
theorem cv_ML_48 : ev_CV "MeshLines" 48 8 M_Co_append 4 := ⟨cb_Co_append, w_294, w_295, w_296, _, _, (ck_8).1⟩
theorem cv_ML_58 : ev_CV "MeshLines" 58 1 M_Me_enterFlits 1 := ⟨cb_Me_enterFlits, w_302, w_303, w_304, _, _, (ck_1).1⟩
theorem cv_ML_62 : ev_CV "MeshLines" 62 1 M_Me_moveFlits 1 := ⟨cb_Me_moveFlits, w_374, w_375, w_376, _, _, (ck_1).1⟩
theorem cv_ML_65 : ev_CV "MeshLines" 65 6 M_No_takePackets 1 := ⟨cb_No_takePackets, w_474, w_475, w_476, _, _, (ck_6).1⟩
theorem cv_ML_68 : ev_CV "MeshLines" 68 8 M_Co_act 1 := ⟨cb_Co_act, w_617, w_618, w_619, _, _, (ck_8).1⟩
theorem cv_ML_108 : ev_CV "MeshLines" 108 1 M_Me_laneOf 2 := ⟨cb_Me_laneOf, w_659, w_387, w_388, _, _, (ck_1).1⟩
theorem cv_ML_118 : ev_CV "MeshLines" 118 3 M_AL_size 0 := ⟨cb_AL_size, w_660, w_484, w_485, _, _, (ck_3).1⟩
theorem cs_ML_147 : ev_CS "MeshLines" 147 M_Ma_min 2 := ⟨cb_Ma_min, w_35, w_36⟩
theorem cs_ML_153 : ev_CS "MeshLines" 153 M_Ma_max 2 := ⟨cb_Ma_max, w_38, w_39⟩
theorem ws_Ca_takeData : Cond.selects "MeshLines$Cache" ⟨"MeshLines$Cache", "takeData", "(LMeshLines$Packet;)Z"⟩ ⟨"MeshLines$Cache", "takeData", "(LMeshLines$Packet;)Z"⟩ ∈ evW := List.mem_filter.mpr ⟨List.mem_append_left _ (by decide +kernel), by decide +kernel⟩
theorem cv_Ca_40 : ev_CV "MeshLines$Cache" 40 7 M_Ca_takeData 1 := ⟨cb_Ca_takeData, w_591, w_593, ws_Ca_takeData, _, _, (ck_7).1⟩
theorem ws_Ca_takeAck : Cond.selects "MeshLines$Cache" ⟨"MeshLines$Cache", "takeAck", "(I)Z"⟩ ⟨"MeshLines$Cache", "takeAck", "(I)Z"⟩ ∈ evW := List.mem_filter.mpr ⟨List.mem_append_left _ (by decide +kernel), by decide +kernel⟩
theorem cv_Ca_44 : ev_CV "MeshLines$Cache" 44 7 M_Ca_takeAck 1 := ⟨cb_Ca_takeAck, w_595, w_597, ws_Ca_takeAck, _, _, (ck_7).1⟩
theorem ws_Ca_takeInv : Cond.selects "MeshLines$Cache" ⟨"MeshLines$Cache", "takeInv", "(LMeshLines$Packet;)V"⟩ ⟨"MeshLines$Cache", "takeInv", "(LMeshLines$Packet;)V"⟩ ∈ evW := List.mem_filter.mpr ⟨List.mem_append_left _ (by decide +kernel), by decide +kernel⟩
theorem cv_Ca_48 : ev_CV "MeshLines$Cache" 48 7 M_Ca_takeInv 1 := ⟨cb_Ca_takeInv, w_599, w_601, ws_Ca_takeInv, _, _, (ck_7).1⟩
theorem ws_Ca_become : Cond.selects "MeshLines$Cache" ⟨"MeshLines$Cache", "become", "(II)V"⟩ ⟨"MeshLines$Cache", "become", "(II)V"⟩ ∈ evW := List.mem_filter.mpr ⟨List.mem_append_left _ (by decide +kernel), by decide +kernel⟩
theorem cv_Ca_52 : ev_CV "MeshLines$Cache" 52 7 M_Ca_become 2 := ⟨cb_Ca_become, w_603, w_605, ws_Ca_become, _, _, (ck_7).1⟩
theorem ws_Ca_giveData : Cond.selects "MeshLines$Cache" ⟨"MeshLines$Cache", "giveData", "(III)V"⟩ ⟨"MeshLines$Cache", "giveData", "(III)V"⟩ ∈ evW := List.mem_filter.mpr ⟨List.mem_append_left _ (by decide +kernel), by decide +kernel⟩
theorem cv_Ca_59 : ev_CV "MeshLines$Cache" 59 7 M_Ca_giveData 3 := ⟨cb_Ca_giveData, w_608, w_610, ws_Ca_giveData, _, _, (ck_7).1⟩
theorem cn_Ca_63 : ev_CN "MeshLines$Cache" 63 M_ML_homeOf 1 := ⟨cb_ML_homeOf, ⟨_, xn_Ca_63⟩, w_153⟩
theorem cv_Ca_73 : ev_CV "MeshLines$Cache" 73 1 M_Me_send 7 := ⟨cb_Me_send, w_607, w_519, w_520, _, _, (ck_1).1⟩
theorem cv_Ca_79 : ev_CV "MeshLines$Cache" 79 7 M_Ca_ask 3 := ⟨cb_Ca_ask, w_638, w_623, w_624, _, _, (ck_7).1⟩
theorem cv_Co_46 : ev_CV "MeshLines$Core" 46 8 M_Co_finishPresent 1 := ⟨cb_Co_finishPresent, w_621, w_614, w_615, _, _, (ck_8).1⟩
theorem cv_Co_50 : ev_CV "MeshLines$Core" 50 7 M_Ca_ask 3 := ⟨cb_Ca_ask, w_622, w_623, w_624, _, _, (ck_7).1⟩
theorem ws_Co_fetch : Cond.selects "MeshLines$Core" ⟨"MeshLines$Core", "fetch", "(IZ)V"⟩ ⟨"MeshLines$Core", "fetch", "(IZ)V"⟩ ∈ evW := List.mem_filter.mpr ⟨List.mem_append_left _ (by decide +kernel), by decide +kernel⟩
theorem cv_Co_54 : ev_CV "MeshLines$Core" 54 8 M_Co_fetch 2 := ⟨cb_Co_fetch, w_626, w_628, ws_Co_fetch, _, _, (ck_8).1⟩
theorem cv_Co_58 : ev_CV "MeshLines$Core" 58 7 M_Ca_hasRoomFor 1 := ⟨cb_Ca_hasRoomFor, w_630, w_631, w_632, _, _, (ck_7).1⟩
theorem cv_Co_62 : ev_CV "MeshLines$Core" 62 7 M_Ca_makeRoomFor 1 := ⟨cb_Ca_makeRoomFor, w_634, w_635, w_636, _, _, (ck_7).1⟩
theorem cv_FB_19 : ev_CV "MeshLines$FlitBuffer" 19 4 M_FB_hasRoom 0 := ⟨cb_FB_hasRoom, w_362, w_315, w_316, _, _, (ck_4).1⟩
theorem cn_Ho_21 : ev_CN "MeshLines$Home" 21 M_ML_homeOf 1 := ⟨cb_ML_homeOf, ⟨_, xn_Ho_21⟩, w_153⟩
theorem ws_Ho_takeGets : Cond.selects "MeshLines$Home" ⟨"MeshLines$Home", "takeGets", "(I)V"⟩ ⟨"MeshLines$Home", "takeGets", "(I)V"⟩ ∈ evW := List.mem_filter.mpr ⟨List.mem_append_left _ (by decide +kernel), by decide +kernel⟩
theorem cv_Ho_40 : ev_CV "MeshLines$Home" 40 5 M_Ho_takeGets 1 := ⟨cb_Ho_takeGets, w_514, w_516, ws_Ho_takeGets, _, _, (ck_5).1⟩
theorem ws_Ho_takeGetm : Cond.selects "MeshLines$Home" ⟨"MeshLines$Home", "takeGetm", "(I)V"⟩ ⟨"MeshLines$Home", "takeGetm", "(I)V"⟩ ∈ evW := List.mem_filter.mpr ⟨List.mem_append_left _ (by decide +kernel), by decide +kernel⟩
theorem cv_Ho_44 : ev_CV "MeshLines$Home" 44 5 M_Ho_takeGetm 1 := ⟨cb_Ho_takeGetm, w_565, w_567, ws_Ho_takeGetm, _, _, (ck_5).1⟩
theorem ws_Ho_takePuts : Cond.selects "MeshLines$Home" ⟨"MeshLines$Home", "takePuts", "(I)V"⟩ ⟨"MeshLines$Home", "takePuts", "(I)V"⟩ ∈ evW := List.mem_filter.mpr ⟨List.mem_append_left _ (by decide +kernel), by decide +kernel⟩
theorem cv_Ho_47 : ev_CV "MeshLines$Home" 47 5 M_Ho_takePuts 1 := ⟨cb_Ho_takePuts, w_575, w_577, ws_Ho_takePuts, _, _, (ck_5).1⟩
theorem ws_Ho_takePutm : Cond.selects "MeshLines$Home" ⟨"MeshLines$Home", "takePutm", "(II)V"⟩ ⟨"MeshLines$Home", "takePutm", "(II)V"⟩ ∈ evW := List.mem_filter.mpr ⟨List.mem_append_left _ (by decide +kernel), by decide +kernel⟩
theorem cv_Ho_53 : ev_CV "MeshLines$Home" 53 5 M_Ho_takePutm 2 := ⟨cb_Ho_takePutm, w_583, w_585, ws_Ho_takePutm, _, _, (ck_5).1⟩
theorem cv_Ho_58 : ev_CV "MeshLines$Home" 58 1 M_Me_send 7 := ⟨cb_Me_send, w_518, w_519, w_520, _, _, (ck_1).1⟩
theorem cs_Ho_67 : ev_CS "MeshLines$Home" 67 M_In_bitCount 1 := ⟨cb_In_bitCount, w_569, w_570⟩
theorem ws_Ho_dropSharer : Cond.selects "MeshLines$Home" ⟨"MeshLines$Home", "dropSharer", "(I)V"⟩ ⟨"MeshLines$Home", "dropSharer", "(I)V"⟩ ∈ evW := List.mem_filter.mpr ⟨List.mem_append_left _ (by decide +kernel), by decide +kernel⟩
theorem cv_Ho_72 : ev_CV "MeshLines$Home" 72 5 M_Ho_dropSharer 1 := ⟨cb_Ho_dropSharer, w_579, w_581, ws_Ho_dropSharer, _, _, (ck_5).1⟩
theorem ci_La_11 : ev_CI "MeshLines$Lane" 11 M_AL_init 0 := ⟨cb_AL_init, w_54, w_55, rfl, rfl⟩
theorem ci_La_38 : ev_CI "MeshLines$Lane" 38 M_FB_init 1 := ⟨cb_FB_init, w_81, w_82, rfl, rfl⟩
theorem cv_La_41 : ev_CV "MeshLines$Lane" 41 3 M_AL_isEmpty 0 := ⟨cb_AL_isEmpty, w_310, w_311, w_312, _, _, (ck_3).1⟩
theorem cv_La_45 : ev_CV "MeshLines$Lane" 45 4 M_FB_hasRoom 0 := ⟨cb_FB_hasRoom, w_314, w_315, w_316, _, _, (ck_4).1⟩
theorem cv_La_50 : ev_CV "MeshLines$Lane" 50 3 M_AL_get 1 := ⟨cb_AL_get, w_320, w_321, w_322, _, _, (ck_3).1⟩
theorem ci_La_59 : ev_CI "MeshLines$Lane" 59 M_Fl_init 2 := ⟨cb_Fl_init, w_335, w_336, rfl, rfl⟩
theorem cv_La_62 : ev_CV "MeshLines$Lane" 62 4 M_FB_put 2 := ⟨cb_FB_put, w_358, w_359, w_360, _, _, (ck_4).1⟩
theorem cv_La_70 : ev_CV "MeshLines$Lane" 70 3 M_AL_remove 1 := ⟨cb_AL_remove, w_363, w_364, w_365, _, _, (ck_3).1⟩
theorem cv_La_73 : ev_CV "MeshLines$Lane" 73 4 M_FB_front 0 := ⟨cb_FB_front, w_394, w_395, w_396, _, _, (ck_4).1⟩
theorem ws_La_wayTo : Cond.selects "MeshLines$Lane" ⟨"MeshLines$Lane", "wayTo", "(I)I"⟩ ⟨"MeshLines$Lane", "wayTo", "(I)I"⟩ ∈ evW := List.mem_filter.mpr ⟨List.mem_append_left _ (by decide +kernel), by decide +kernel⟩
theorem cv_La_87 : ev_CV "MeshLines$Lane" 87 2 M_La_wayTo 1 := ⟨cb_La_wayTo, w_398, w_400, ws_La_wayTo, _, _, (ck_2).1⟩
theorem cv_La_91 : ev_CV "MeshLines$Lane" 91 4 M_FB_dropFront 0 := ⟨cb_FB_dropFront, w_470, w_471, w_472, _, _, (ck_4).1⟩
theorem ci_Me_21 : ev_CI "MeshLines$Mesh" 21 M_La_init 2 := ⟨cb_La_init, w_48, w_49, rfl, rfl⟩
theorem ci_Me_26 : ev_CI "MeshLines$Mesh" 26 M_Pa_init 7 := ⟨cb_Pa_init, w_524, w_525, rfl, rfl⟩
theorem cv_Me_29 : ev_CV "MeshLines$Mesh" 29 10 M_Pa_channel 0 := ⟨cb_Pa_channel, w_561, w_562, w_563, _, _, (ck_10).1⟩
theorem cv_Me_33 : ev_CV "MeshLines$Mesh" 33 1 M_Me_laneOf 2 := ⟨cb_Me_laneOf, w_386, w_387, w_388, _, _, (ck_1).1⟩
theorem cv_Me_41 : ev_CV "MeshLines$Mesh" 41 3 M_AL_add1 1 := ⟨cb_AL_add1, w_407, w_408, w_409, _, _, (ck_3).1⟩
theorem cv_Me_50 : ev_CV "MeshLines$Mesh" 50 2 M_La_enterFlit 1 := ⟨cb_La_enterFlit, w_306, w_307, w_308, _, _, (ck_2).1⟩
theorem ws_Me_moveOneFlit : Cond.selects "MeshLines$Mesh" ⟨"MeshLines$Mesh", "moveOneFlit", "(III)V"⟩ ⟨"MeshLines$Mesh", "moveOneFlit", "(III)V"⟩ ∈ evW := List.mem_filter.mpr ⟨List.mem_append_left _ (by decide +kernel), by decide +kernel⟩
theorem cv_Me_57 : ev_CV "MeshLines$Mesh" 57 1 M_Me_moveOneFlit 3 := ⟨cb_Me_moveOneFlit, w_378, w_380, ws_Me_moveOneFlit, _, _, (ck_1).1⟩
theorem ws_Me_moveFlitOf : Cond.selects "MeshLines$Mesh" ⟨"MeshLines$Mesh", "moveFlitOf", "(IIII)Z"⟩ ⟨"MeshLines$Mesh", "moveFlitOf", "(IIII)Z"⟩ ∈ evW := List.mem_filter.mpr ⟨List.mem_append_left _ (by decide +kernel), by decide +kernel⟩
theorem cv_Me_61 : ev_CV "MeshLines$Mesh" 61 1 M_Me_moveFlitOf 4 := ⟨cb_Me_moveFlitOf, w_382, w_384, ws_Me_moveFlitOf, _, _, (ck_1).1⟩
theorem cv_Me_65 : ev_CV "MeshLines$Mesh" 65 2 M_La_portFor 1 := ⟨cb_La_portFor, w_390, w_391, w_392, _, _, (ck_2).1⟩
theorem cv_Me_73 : ev_CV "MeshLines$Mesh" 73 4 M_FB_front 0 := ⟨cb_FB_front, w_402, w_395, w_396, _, _, (ck_4).1⟩
theorem ws_Me_leaveMesh : Cond.selects "MeshLines$Mesh" ⟨"MeshLines$Mesh", "leaveMesh", "(LMeshLines$Flit;LMeshLines$Lane;)V"⟩ ⟨"MeshLines$Mesh", "leaveMesh", "(LMeshLines$Flit;LMeshLines$Lane;)V"⟩ ∈ evW := List.mem_filter.mpr ⟨List.mem_append_left _ (by decide +kernel), by decide +kernel⟩
theorem cv_Me_84 : ev_CV "MeshLines$Mesh" 84 1 M_Me_leaveMesh 2 := ⟨cb_Me_leaveMesh, w_403, w_405, ws_Me_leaveMesh, _, _, (ck_1).1⟩
theorem ws_Me_bufferBeyond : Cond.selects "MeshLines$Mesh" ⟨"MeshLines$Mesh", "bufferBeyond", "(III)LMeshLines$FlitBuffer;"⟩ ⟨"MeshLines$Mesh", "bufferBeyond", "(III)LMeshLines$FlitBuffer;"⟩ ∈ evW := List.mem_filter.mpr ⟨List.mem_append_left _ (by decide +kernel), by decide +kernel⟩
theorem cv_Me_88 : ev_CV "MeshLines$Mesh" 88 1 M_Me_bufferBeyond 3 := ⟨cb_Me_bufferBeyond, w_460, w_462, ws_Me_bufferBeyond, _, _, (ck_1).1⟩
theorem cv_Me_92 : ev_CV "MeshLines$Mesh" 92 4 M_FB_hasRoom 0 := ⟨cb_FB_hasRoom, w_464, w_315, w_316, _, _, (ck_4).1⟩
theorem cv_Me_96 : ev_CV "MeshLines$Mesh" 96 4 M_FB_put 2 := ⟨cb_FB_put, w_465, w_359, w_360, _, _, (ck_4).1⟩
theorem cv_Me_103 : ev_CV "MeshLines$Mesh" 103 2 M_La_dropFront 2 := ⟨cb_La_dropFront, w_466, w_467, w_468, _, _, (ck_2).1⟩
theorem ci_No_25 : ev_CI "MeshLines$Node" 25 M_Ca_init 2 := ⟨cb_Ca_init, w_190, w_191, rfl, rfl⟩
theorem ci_No_34 : ev_CI "MeshLines$Node" 34 M_Co_init 1 := ⟨cb_Co_init, w_222, w_223, rfl, rfl⟩
theorem cv_No_41 : ev_CV "MeshLines$Node" 41 1 M_Me_laneOf 2 := ⟨cb_Me_laneOf, w_478, w_387, w_388, _, _, (ck_1).1⟩
theorem ws_No_firstToTake : Cond.selects "MeshLines$Node" ⟨"MeshLines$Node", "firstToTake", "(Ljava/util/ArrayList;)I"⟩ ⟨"MeshLines$Node", "firstToTake", "(Ljava/util/ArrayList;)I"⟩ ∈ evW := List.mem_filter.mpr ⟨List.mem_append_left _ (by decide +kernel), by decide +kernel⟩
theorem cv_No_53 : ev_CV "MeshLines$Node" 53 6 M_No_firstToTake 1 := ⟨cb_No_firstToTake, w_479, w_481, ws_No_firstToTake, _, _, (ck_6).1⟩
theorem cv_No_57 : ev_CV "MeshLines$Node" 57 3 M_AL_remove 1 := ⟨cb_AL_remove, w_505, w_364, w_365, _, _, (ck_3).1⟩
theorem ws_No_take : Cond.selects "MeshLines$Node" ⟨"MeshLines$Node", "take", "(LMeshLines$Packet;I)V"⟩ ⟨"MeshLines$Node", "take", "(LMeshLines$Packet;I)V"⟩ ∈ evW := List.mem_filter.mpr ⟨List.mem_append_left _ (by decide +kernel), by decide +kernel⟩
theorem cv_No_65 : ev_CV "MeshLines$Node" 65 6 M_No_take 2 := ⟨cb_No_take, w_506, w_508, ws_No_take, _, _, (ck_6).1⟩
theorem cv_No_69 : ev_CV "MeshLines$Node" 69 3 M_AL_size 0 := ⟨cb_AL_size, w_483, w_484, w_485, _, _, (ck_3).1⟩
theorem cv_No_73 : ev_CV "MeshLines$Node" 73 3 M_AL_get 1 := ⟨cb_AL_get, w_487, w_321, w_322, _, _, (ck_3).1⟩
theorem ws_No_stalls : Cond.selects "MeshLines$Node" ⟨"MeshLines$Node", "stalls", "(LMeshLines$Packet;)Z"⟩ ⟨"MeshLines$Node", "stalls", "(LMeshLines$Packet;)Z"⟩ ∈ evW := List.mem_filter.mpr ⟨List.mem_append_left _ (by decide +kernel), by decide +kernel⟩
theorem cv_No_79 : ev_CV "MeshLines$Node" 79 6 M_No_stalls 1 := ⟨cb_No_stalls, w_489, w_491, ws_No_stalls, _, _, (ck_6).1⟩
theorem cv_No_83 : ev_CV "MeshLines$Node" 83 10 M_Pa_isForHome 0 := ⟨cb_Pa_isForHome, w_493, w_494, w_495, _, _, (ck_10).1⟩
theorem cv_No_87 : ev_CV "MeshLines$Node" 87 5 M_Ho_stalls 1 := ⟨cb_Ho_stalls, w_497, w_498, w_499, _, _, (ck_5).1⟩
theorem cv_No_90 : ev_CV "MeshLines$Node" 90 7 M_Ca_stalls 1 := ⟨cb_Ca_stalls, w_501, w_502, w_503, _, _, (ck_7).1⟩
theorem cv_No_91 : ev_CV "MeshLines$Node" 91 5 M_Ho_take 1 := ⟨cb_Ho_take, w_510, w_511, w_512, _, _, (ck_5).1⟩
theorem cv_No_94 : ev_CV "MeshLines$Node" 94 7 M_Ca_take 1 := ⟨cb_Ca_take, w_587, w_588, w_589, _, _, (ck_7).1⟩
theorem cv_No_96 : ev_CV "MeshLines$Node" 96 8 M_Co_finishPresent 1 := ⟨cb_Co_finishPresent, w_613, w_614, w_615, _, _, (ck_8).1⟩
theorem cs_Lw_9 : ev_CS "MeshLinesLaw" 9 M_Lw_cell 2 := ⟨cb_Lw_cell, w_669, w_670⟩
theorem ci_Lw_15 : ev_CI "MeshLinesLaw" 15 M_ML_init 2 := ⟨cb_ML_init, w_24, w_25, rfl, rfl⟩
theorem ci_Lw_20 : ev_CI "MeshLinesLaw" 20 M_Mo_init 2 := ⟨cb_Mo_init, w_674, w_675, rfl, rfl⟩
theorem cv_Lw_21 : ev_CV "MeshLinesLaw" 21 0 M_ML_operation 5 := ⟨cb_ML_operation, w_287, w_288, w_289, _, _, (ck_0).1⟩
theorem cv_Lw_25 : ev_CV "MeshLinesLaw" 25 11 M_Mo_operation 5 := ⟨cb_Mo_operation, w_803, w_804, w_805, _, _, (ck_11).1⟩
theorem cv_Lw_26 : ev_CV "MeshLinesLaw" 26 0 M_ML_run 1 := ⟨cb_ML_run, w_298, w_299, w_300, _, _, (ck_0).1⟩
theorem cv_Lw_30 : ev_CV "MeshLinesLaw" 30 11 M_Mo_run 1 := ⟨cb_Mo_run, w_813, w_814, w_815, _, _, (ck_11).1⟩
theorem cv_Lw_31 : ev_CV "MeshLinesLaw" 31 0 M_ML_result 2 := ⟨cb_ML_result, w_639, w_640, w_641, _, _, (ck_0).1⟩
theorem cv_Lw_35 : ev_CV "MeshLinesLaw" 35 11 M_Mo_result 2 := ⟨cb_Mo_result, w_924, w_925, w_926, _, _, (ck_11).1⟩
theorem cv_Lw_36 : ev_CV "MeshLinesLaw" 36 0 M_ML_done 1 := ⟨cb_ML_done, w_643, w_644, w_645, _, _, (ck_0).1⟩
theorem cv_Lw_39 : ev_CV "MeshLinesLaw" 39 11 M_Mo_done 1 := ⟨cb_Mo_done, w_928, w_929, w_930, _, _, (ck_11).1⟩
theorem cv_Lw_40 : ev_CV "MeshLinesLaw" 40 0 M_ML_cache 3 := ⟨cb_ML_cache, w_647, w_648, w_649, _, _, (ck_0).1⟩
theorem cv_Lw_44 : ev_CV "MeshLinesLaw" 44 11 M_Mo_cache 3 := ⟨cb_Mo_cache, w_932, w_933, w_934, _, _, (ck_11).1⟩
theorem cv_Lw_45 : ev_CV "MeshLinesLaw" 45 0 M_ML_home 2 := ⟨cb_ML_home, w_651, w_652, w_653, _, _, (ck_0).1⟩
theorem cv_Lw_48 : ev_CV "MeshLinesLaw" 48 11 M_Mo_home 2 := ⟨cb_Mo_home, w_936, w_937, w_938, _, _, (ck_11).1⟩
theorem cv_Lw_49 : ev_CV "MeshLinesLaw" 49 0 M_ML_buffer 3 := ⟨cb_ML_buffer, w_655, w_656, w_657, _, _, (ck_0).1⟩
theorem cv_Lw_52 : ev_CV "MeshLinesLaw" 52 11 M_Mo_buffer 3 := ⟨cb_Mo_buffer, w_940, w_941, w_942, _, _, (ck_11).1⟩
theorem cv_Lw_53 : ev_CV "MeshLinesLaw" 53 0 M_ML_held 3 := ⟨cb_ML_held, w_661, w_662, w_663, _, _, (ck_0).1⟩
theorem cv_Lw_56 : ev_CV "MeshLinesLaw" 56 11 M_Mo_held 3 := ⟨cb_Mo_held, w_944, w_945, w_946, _, _, (ck_11).1⟩
theorem cv_Lw_57 : ev_CV "MeshLinesLaw" 57 0 M_ML_count 1 := ⟨cb_ML_count, w_665, w_666, w_667, _, _, (ck_0).1⟩
theorem cv_Lw_60 : ev_CV "MeshLinesLaw" 60 11 M_Mo_count 1 := ⟨cb_Mo_count, w_948, w_949, w_950, _, _, (ck_11).1⟩
theorem cs_Mo_123 : ev_CS "MeshLinesModel" 123 M_Mo_channelOf 1 := ⟨cb_Mo_channelOf, w_871, w_872⟩
theorem ws_Mo_append : Cond.selects "MeshLinesModel" ⟨"MeshLinesModel", "append", "(III)V"⟩ ⟨"MeshLinesModel", "append", "(III)V"⟩ ∈ evW := List.mem_filter.mpr ⟨List.mem_append_left _ (by decide +kernel), by decide +kernel⟩
theorem cv_Mo_133 : ev_CV "MeshLinesModel" 133 11 M_Mo_append 3 := ⟨cb_Mo_append, w_825, w_827, ws_Mo_append, _, _, (ck_11).1⟩
theorem ws_Mo_sizeOf : Cond.selects "MeshLinesModel" ⟨"MeshLinesModel", "sizeOf", "(I)I"⟩ ⟨"MeshLinesModel", "sizeOf", "(I)I"⟩ ∈ evW := List.mem_filter.mpr ⟨List.mem_append_left _ (by decide +kernel), by decide +kernel⟩
theorem cv_Mo_137 : ev_CV "MeshLinesModel" 137 11 M_Mo_sizeOf 1 := ⟨cb_Mo_sizeOf, w_829, w_831, ws_Mo_sizeOf, _, _, (ck_11).1⟩
theorem cs_Mo_140 : ev_CS "MeshLinesModel" 140 M_Mo_way 2 := ⟨cb_Mo_way, w_841, w_842⟩
theorem ws_Mo_served : Cond.selects "MeshLinesModel" ⟨"MeshLinesModel", "served", "(III)I"⟩ ⟨"MeshLinesModel", "served", "(III)I"⟩ ∈ evW := List.mem_filter.mpr ⟨List.mem_append_left _ (by decide +kernel), by decide +kernel⟩
theorem cv_Mo_144 : ev_CV "MeshLinesModel" 144 11 M_Mo_served 3 := ⟨cb_Mo_served, w_837, w_839, ws_Mo_served, _, _, (ck_11).1⟩
theorem cs_Mo_148 : ev_CS "MeshLinesModel" 148 M_Mo_neighbour 2 := ⟨cb_Mo_neighbour, w_844, w_845⟩
theorem ws_Mo_removeFront : Cond.selects "MeshLinesModel" ⟨"MeshLinesModel", "removeFront", "(I)V"⟩ ⟨"MeshLinesModel", "removeFront", "(I)V"⟩ ∈ evW := List.mem_filter.mpr ⟨List.mem_append_left _ (by decide +kernel), by decide +kernel⟩
theorem cv_Mo_151 : ev_CV "MeshLinesModel" 151 11 M_Mo_removeFront 1 := ⟨cb_Mo_removeFront, w_847, w_849, ws_Mo_removeFront, _, _, (ck_11).1⟩
theorem ws_Mo_finish : Cond.selects "MeshLinesModel" ⟨"MeshLinesModel", "finish", "(II)V"⟩ ⟨"MeshLinesModel", "finish", "(II)V"⟩ ∈ evW := List.mem_filter.mpr ⟨List.mem_append_left _ (by decide +kernel), by decide +kernel⟩
theorem cv_Mo_161 : ev_CV "MeshLinesModel" 161 11 M_Mo_finish 2 := ⟨cb_Mo_finish, w_905, w_907, ws_Mo_finish, _, _, (ck_11).1⟩
theorem ws_Mo_send : Cond.selects "MeshLinesModel" ⟨"MeshLinesModel", "send", "(IIIIIII)V"⟩ ⟨"MeshLinesModel", "send", "(IIIIIII)V"⟩ ∈ evW := List.mem_filter.mpr ⟨List.mem_append_left _ (by decide +kernel), by decide +kernel⟩
theorem cv_Mo_165 : ev_CV "MeshLinesModel" 165 11 M_Mo_send 7 := ⟨cb_Mo_send, w_867, w_869, ws_Mo_send, _, _, (ck_11).1⟩
theorem cs_Mo_169 : ev_CS "MeshLinesModel" 169 M_Mo_homeOf 1 := ⟨cb_Mo_homeOf, w_890, w_891⟩
theorem ws_Mo_become : Cond.selects "MeshLinesModel" ⟨"MeshLinesModel", "become", "(III)V"⟩ ⟨"MeshLinesModel", "become", "(III)V"⟩ ∈ evW := List.mem_filter.mpr ⟨List.mem_append_left _ (by decide +kernel), by decide +kernel⟩
theorem cv_Mo_172 : ev_CV "MeshLinesModel" 172 11 M_Mo_become 3 := ⟨cb_Mo_become, w_901, w_903, ws_Mo_become, _, _, (ck_11).1⟩
theorem ws_Mo_gone : Cond.selects "MeshLinesModel" ⟨"MeshLinesModel", "gone", "(II)V"⟩ ⟨"MeshLinesModel", "gone", "(II)V"⟩ ∈ evW := List.mem_filter.mpr ⟨List.mem_append_left _ (by decide +kernel), by decide +kernel⟩
theorem cv_Mo_175 : ev_CV "MeshLinesModel" 175 11 M_Mo_gone 2 := ⟨cb_Mo_gone, w_878, w_880, ws_Mo_gone, _, _, (ck_11).1⟩
theorem ws_Mo_gets : Cond.selects "MeshLinesModel" ⟨"MeshLinesModel", "gets", "(III)Z"⟩ ⟨"MeshLinesModel", "gets", "(III)Z"⟩ ∈ evW := List.mem_filter.mpr ⟨List.mem_append_left _ (by decide +kernel), by decide +kernel⟩
theorem cv_Mo_178 : ev_CV "MeshLinesModel" 178 11 M_Mo_gets 3 := ⟨cb_Mo_gets, w_863, w_865, ws_Mo_gets, _, _, (ck_11).1⟩
theorem ws_Mo_getm : Cond.selects "MeshLinesModel" ⟨"MeshLinesModel", "getm", "(III)Z"⟩ ⟨"MeshLinesModel", "getm", "(III)Z"⟩ ∈ evW := List.mem_filter.mpr ⟨List.mem_append_left _ (by decide +kernel), by decide +kernel⟩
theorem cv_Mo_182 : ev_CV "MeshLinesModel" 182 11 M_Mo_getm 3 := ⟨cb_Mo_getm, w_874, w_876, ws_Mo_getm, _, _, (ck_11).1⟩
theorem ws_Mo_putm : Cond.selects "MeshLinesModel" ⟨"MeshLinesModel", "putm", "(III)V"⟩ ⟨"MeshLinesModel", "putm", "(III)V"⟩ ∈ evW := List.mem_filter.mpr ⟨List.mem_append_left _ (by decide +kernel), by decide +kernel⟩
theorem cv_Mo_185 : ev_CV "MeshLinesModel" 185 11 M_Mo_putm 3 := ⟨cb_Mo_putm, w_882, w_884, ws_Mo_putm, _, _, (ck_11).1⟩
theorem ws_Mo_forward : Cond.selects "MeshLinesModel" ⟨"MeshLinesModel", "forward", "(IIZ)Z"⟩ ⟨"MeshLinesModel", "forward", "(IIZ)Z"⟩ ∈ evW := List.mem_filter.mpr ⟨List.mem_append_left _ (by decide +kernel), by decide +kernel⟩
theorem cv_Mo_188 : ev_CV "MeshLinesModel" 188 11 M_Mo_forward 3 := ⟨cb_Mo_forward, w_886, w_888, ws_Mo_forward, _, _, (ck_11).1⟩
theorem ws_Mo_invalidate : Cond.selects "MeshLinesModel" ⟨"MeshLinesModel", "invalidate", "(II)Z"⟩ ⟨"MeshLinesModel", "invalidate", "(II)Z"⟩ ∈ evW := List.mem_filter.mpr ⟨List.mem_append_left _ (by decide +kernel), by decide +kernel⟩
theorem cv_Mo_192 : ev_CV "MeshLinesModel" 192 11 M_Mo_invalidate 2 := ⟨cb_Mo_invalidate, w_893, w_895, ws_Mo_invalidate, _, _, (ck_11).1⟩
theorem ws_Mo_data : Cond.selects "MeshLinesModel" ⟨"MeshLinesModel", "data", "(II)V"⟩ ⟨"MeshLinesModel", "data", "(II)V"⟩ ∈ evW := List.mem_filter.mpr ⟨List.mem_append_left _ (by decide +kernel), by decide +kernel⟩
theorem cv_Mo_196 : ev_CV "MeshLinesModel" 196 11 M_Mo_data 2 := ⟨cb_Mo_data, w_897, w_899, ws_Mo_data, _, _, (ck_11).1⟩
theorem ws_Mo_acknowledged : Cond.selects "MeshLinesModel" ⟨"MeshLinesModel", "acknowledged", "(II)V"⟩ ⟨"MeshLinesModel", "acknowledged", "(II)V"⟩ ∈ evW := List.mem_filter.mpr ⟨List.mem_append_left _ (by decide +kernel), by decide +kernel⟩
theorem cv_Mo_199 : ev_CV "MeshLinesModel" 199 11 M_Mo_acknowledged 2 := ⟨cb_Mo_acknowledged, w_909, w_911, ws_Mo_acknowledged, _, _, (ck_11).1⟩
theorem ws_Mo_isBehind : Cond.selects "MeshLinesModel" ⟨"MeshLinesModel", "isBehind", "(II)Z"⟩ ⟨"MeshLinesModel", "isBehind", "(II)Z"⟩ ∈ evW := List.mem_filter.mpr ⟨List.mem_append_left _ (by decide +kernel), by decide +kernel⟩
theorem cv_Mo_202 : ev_CV "MeshLinesModel" 202 11 M_Mo_isBehind 2 := ⟨cb_Mo_isBehind, w_855, w_857, ws_Mo_isBehind, _, _, (ck_11).1⟩
theorem ws_Mo_takes : Cond.selects "MeshLinesModel" ⟨"MeshLinesModel", "takes", "(II)Z"⟩ ⟨"MeshLinesModel", "takes", "(II)Z"⟩ ∈ evW := List.mem_filter.mpr ⟨List.mem_append_left _ (by decide +kernel), by decide +kernel⟩
theorem cv_Mo_205 : ev_CV "MeshLinesModel" 205 11 M_Mo_takes 2 := ⟨cb_Mo_takes, w_859, w_861, ws_Mo_takes, _, _, (ck_11).1⟩
theorem cs_Mo_208 : ev_CS "MeshLinesModel" 208 M_Mo_isLeaving 1 := ⟨cb_Mo_isLeaving, w_921, w_922⟩
theorem ws_Mo_evict : Cond.selects "MeshLinesModel" ⟨"MeshLinesModel", "evict", "(II)V"⟩ ⟨"MeshLinesModel", "evict", "(II)V"⟩ ∈ evW := List.mem_filter.mpr ⟨List.mem_append_left _ (by decide +kernel), by decide +kernel⟩
theorem cv_Mo_212 : ev_CV "MeshLinesModel" 212 11 M_Mo_evict 2 := ⟨cb_Mo_evict, w_917, w_919, ws_Mo_evict, _, _, (ck_11).1⟩
theorem ws_Mo_inject : Cond.selects "MeshLinesModel" ⟨"MeshLinesModel", "inject", "(II)V"⟩ ⟨"MeshLinesModel", "inject", "(II)V"⟩ ∈ evW := List.mem_filter.mpr ⟨List.mem_append_left _ (by decide +kernel), by decide +kernel⟩
theorem cv_Mo_215 : ev_CV "MeshLinesModel" 215 11 M_Mo_inject 2 := ⟨cb_Mo_inject, w_821, w_823, ws_Mo_inject, _, _, (ck_11).1⟩
theorem ws_Mo_moves : Cond.selects "MeshLinesModel" ⟨"MeshLinesModel", "moves", "(III)Z"⟩ ⟨"MeshLinesModel", "moves", "(III)Z"⟩ ∈ evW := List.mem_filter.mpr ⟨List.mem_append_left _ (by decide +kernel), by decide +kernel⟩
theorem cv_Mo_218 : ev_CV "MeshLinesModel" 218 11 M_Mo_moves 3 := ⟨cb_Mo_moves, w_833, w_835, ws_Mo_moves, _, _, (ck_11).1⟩
theorem ws_Mo_takeFirst : Cond.selects "MeshLinesModel" ⟨"MeshLinesModel", "takeFirst", "(II)V"⟩ ⟨"MeshLinesModel", "takeFirst", "(II)V"⟩ ∈ evW := List.mem_filter.mpr ⟨List.mem_append_left _ (by decide +kernel), by decide +kernel⟩
theorem cv_Mo_221 : ev_CV "MeshLinesModel" 221 11 M_Mo_takeFirst 2 := ⟨cb_Mo_takeFirst, w_851, w_853, ws_Mo_takeFirst, _, _, (ck_11).1⟩
theorem ws_Mo_core : Cond.selects "MeshLinesModel" ⟨"MeshLinesModel", "core", "(I)V"⟩ ⟨"MeshLinesModel", "core", "(I)V"⟩ ∈ evW := List.mem_filter.mpr ⟨List.mem_append_left _ (by decide +kernel), by decide +kernel⟩
theorem cv_Mo_224 : ev_CV "MeshLinesModel" 224 11 M_Mo_core 1 := ⟨cb_Mo_core, w_913, w_915, ws_Mo_core, _, _, (ck_11).1⟩
theorem cs_Mo_227 : ev_CS "MeshLinesModel" 227 M_Mo_isNode 1 := ⟨cb_Mo_isNode, w_807, w_808⟩
theorem cs_Mo_230 : ev_CS "MeshLinesModel" 230 M_Mo_isLine 1 := ⟨cb_Mo_isLine, w_810, w_811⟩
theorem ws_Mo_oneCycle : Cond.selects "MeshLinesModel" ⟨"MeshLinesModel", "oneCycle", "()V"⟩ ⟨"MeshLinesModel", "oneCycle", "()V"⟩ ∈ evW := List.mem_filter.mpr ⟨List.mem_append_left _ (by decide +kernel), by decide +kernel⟩
theorem cv_Mo_233 : ev_CV "MeshLinesModel" 233 11 M_Mo_oneCycle 0 := ⟨cb_Mo_oneCycle, w_817, w_819, ws_Mo_oneCycle, _, _, (ck_11).1⟩
theorem ci_Al_1 : ev_CI "java/util/AbstractList" 1 M_Ac_init 0 := ⟨cb_Ac_init, w_60, w_61, rfl, rfl⟩
theorem ci_AL_1 : ev_CI "java/util/ArrayList" 1 M_Al_init 0 := ⟨cb_Al_init, w_57, w_58, rfl, rfl⟩
theorem cs_AL_66 : ev_CS "java/util/ArrayList" 66 M_Ar_copyOf2 2 := ⟨cb_Ar_copyOf2, w_431, w_432⟩
theorem ws_AL_grow1 : Cond.selects "java/util/ArrayList" ⟨"java/util/ArrayList", "grow", "(I)[Ljava/lang/Object;"⟩ ⟨"java/util/ArrayList", "grow", "(I)[Ljava/lang/Object;"⟩ ∈ evW := List.mem_filter.mpr ⟨List.mem_append_left _ (by decide +kernel), by decide +kernel⟩
theorem cv_AL_69 : ev_CV "java/util/ArrayList" 69 3 M_AL_grow1 1 := ⟨cb_AL_grow1, w_419, w_421, ws_AL_grow1, _, _, (ck_3).1⟩
theorem cs_AL_73 : ev_CS "java/util/ArrayList" 73 M_As_newLength 3 := ⟨cb_As_newLength, w_423, w_424⟩
theorem cs_AL_79 : ev_CS "java/util/ArrayList" 79 M_Ma_max 2 := ⟨cb_Ma_max, w_458, w_39⟩
theorem cs_AL_118 : ev_CS "java/util/ArrayList" 118 M_Os_checkIndex 2 := ⟨cb_Os_checkIndex, w_324, w_325⟩
theorem cv_AL_123 : ev_CV "java/util/ArrayList" 123 3 M_AL_elementData 1 := ⟨cb_AL_elementData, w_330, w_331, w_332, _, _, (ck_3).1⟩
theorem ws_AL_grow0 : Cond.selects "java/util/ArrayList" ⟨"java/util/ArrayList", "grow", "()[Ljava/lang/Object;"⟩ ⟨"java/util/ArrayList", "grow", "()[Ljava/lang/Object;"⟩ ∈ evW := List.mem_filter.mpr ⟨List.mem_append_left _ (by decide +kernel), by decide +kernel⟩
theorem cv_AL_129 : ev_CV "java/util/ArrayList" 129 3 M_AL_grow0 0 := ⟨cb_AL_grow0, w_415, w_417, ws_AL_grow0, _, _, (ck_3).1⟩
theorem ws_AL_add3 : Cond.selects "java/util/ArrayList" ⟨"java/util/ArrayList", "add", "(Ljava/lang/Object;[Ljava/lang/Object;I)V"⟩ ⟨"java/util/ArrayList", "add", "(Ljava/lang/Object;[Ljava/lang/Object;I)V"⟩ ∈ evW := List.mem_filter.mpr ⟨List.mem_append_left _ (by decide +kernel), by decide +kernel⟩
theorem cv_AL_131 : ev_CV "java/util/ArrayList" 131 3 M_AL_add3 3 := ⟨cb_AL_add3, w_411, w_413, ws_AL_add3, _, _, (ck_3).1⟩
theorem ws_AL_fastRemove : Cond.selects "java/util/ArrayList" ⟨"java/util/ArrayList", "fastRemove", "([Ljava/lang/Object;I)V"⟩ ⟨"java/util/ArrayList", "fastRemove", "([Ljava/lang/Object;I)V"⟩ ∈ evW := List.mem_filter.mpr ⟨List.mem_append_left _ (by decide +kernel), by decide +kernel⟩
theorem cv_AL_144 : ev_CV "java/util/ArrayList" 144 3 M_AL_fastRemove 2 := ⟨cb_AL_fastRemove, w_367, w_369, ws_AL_fastRemove, _, _, (ck_3).1⟩
theorem cs_Ar_300 : ev_CS "java/util/Arrays" 300 M_Ar_copyOf3 3 := ⟨cb_Ar_copyOf3, w_450, w_451⟩
theorem cs_Ar_304 : ev_CS "java/util/Arrays" 304 M_Ma_min 2 := ⟨cb_Ma_min, w_456, w_36⟩
theorem cs_Os_105 : ev_CS "java/util/Objects" 105 M_Pr_checkIndex 3 := ⟨cb_Pr_checkIndex, w_327, w_328⟩
theorem cs_As_194 : ev_CS "jdk/internal/util/ArraysSupport" 194 M_Ma_max 2 := ⟨cb_Ma_max, w_426, w_39⟩
theorem cs_As_201 : ev_CS "jdk/internal/util/ArraysSupport" 201 M_As_hugeLength 2 := ⟨cb_As_hugeLength, w_428, w_429⟩
