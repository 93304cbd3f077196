section
/-- a private method of a class that the tables say can be made, by its rows of tables_1 -/
def lw_okq (q : MethodName × Nat) : Prop := (q.1.cls ≠ "java/lang/invoke/MethodHandle" ∧ q.1.cls ≠ "java/lang/invoke/VarHandle") ∧ Cond.instantiable q.1.cls q.2 ∈ tables_1 ∧ Cond.privateMethod q.1 ∈ tables_1 ∧ Cond.instanceMethod q.1 ∈ tables_1
theorem lw_p0 : lw_okq (⟨"TunnelLamps$MineText", "readNumbers", "(LTunnelLamps$Command;)Z"⟩, 3) := ⟨⟨by decide +kernel, by decide +kernel⟩, List.mem_of_getElem? (i := 28) (by decide +kernel), List.mem_of_getElem? (i := 374) (by decide +kernel), List.mem_of_getElem? (i := 375) (by decide +kernel)⟩
theorem lw_p1 : lw_okq (⟨"TunnelLamps$MineText", "readNumber", "(LTunnelLamps$Command;IIII)Z"⟩, 3) := ⟨⟨by decide +kernel, by decide +kernel⟩, List.mem_of_getElem? (i := 28) (by decide +kernel), List.mem_of_getElem? (i := 378) (by decide +kernel), List.mem_of_getElem? (i := 379) (by decide +kernel)⟩
theorem lw_p2 : lw_okq (⟨"TunnelLamps$MineText", "readGallery", "(LTunnelLamps$Command;I)Z"⟩, 3) := ⟨⟨by decide +kernel, by decide +kernel⟩, List.mem_of_getElem? (i := 28) (by decide +kernel), List.mem_of_getElem? (i := 389) (by decide +kernel), List.mem_of_getElem? (i := 390) (by decide +kernel)⟩
theorem lw_p3 : lw_okq (⟨"TunnelLamps$MineText", "readCell", "(LTunnelLamps$Command;I)Z"⟩, 3) := ⟨⟨by decide +kernel, by decide +kernel⟩, List.mem_of_getElem? (i := 28) (by decide +kernel), List.mem_of_getElem? (i := 393) (by decide +kernel), List.mem_of_getElem? (i := 394) (by decide +kernel)⟩
theorem lw_p4 : lw_okq (⟨"TunnelLamps$MineText", "readLamp", "(LTunnelLamps$Command;)Z"⟩, 3) := ⟨⟨by decide +kernel, by decide +kernel⟩, List.mem_of_getElem? (i := 28) (by decide +kernel), List.mem_of_getElem? (i := 397) (by decide +kernel), List.mem_of_getElem? (i := 398) (by decide +kernel)⟩
theorem lw_p5 : lw_okq (⟨"TunnelLamps$Mine", "minersWork", "()V"⟩, 16) := ⟨⟨by decide +kernel, by decide +kernel⟩, List.mem_of_getElem? (i := 74) (by decide +kernel), List.mem_of_getElem? (i := 433) (by decide +kernel), List.mem_of_getElem? (i := 434) (by decide +kernel)⟩
theorem lw_p6 : lw_okq (⟨"TunnelLamps$Mine", "lampsBurn", "()V"⟩, 16) := ⟨⟨by decide +kernel, by decide +kernel⟩, List.mem_of_getElem? (i := 74) (by decide +kernel), List.mem_of_getElem? (i := 460) (by decide +kernel), List.mem_of_getElem? (i := 461) (by decide +kernel)⟩
theorem lw_p7 : lw_okq (⟨"TunnelLamps$Mine", "doesWhatNeedsNoStep", "()Z"⟩, 16) := ⟨⟨by decide +kernel, by decide +kernel⟩, List.mem_of_getElem? (i := 74) (by decide +kernel), List.mem_of_getElem? (i := 468) (by decide +kernel), List.mem_of_getElem? (i := 469) (by decide +kernel)⟩
theorem lw_p8 : lw_okq (⟨"TunnelLamps$Mine", "takesLamp", "(LTunnelLamps$Order;LTunnelLamps$Lamp;)Z"⟩, 16) := ⟨⟨by decide +kernel, by decide +kernel⟩, List.mem_of_getElem? (i := 74) (by decide +kernel), List.mem_of_getElem? (i := 476) (by decide +kernel), List.mem_of_getElem? (i := 477) (by decide +kernel)⟩
theorem lw_p9 : lw_okq (⟨"TunnelLamps$Mine", "hangsLamp", "(LTunnelLamps$Order;LTunnelLamps$Lamp;)Z"⟩, 16) := ⟨⟨by decide +kernel, by decide +kernel⟩, List.mem_of_getElem? (i := 74) (by decide +kernel), List.mem_of_getElem? (i := 484) (by decide +kernel), List.mem_of_getElem? (i := 485) (by decide +kernel)⟩
theorem lw_p10 : lw_okq (⟨"TunnelLamps$Mine", "poursOil", "(LTunnelLamps$Lamp;)Z"⟩, 16) := ⟨⟨by decide +kernel, by decide +kernel⟩, List.mem_of_getElem? (i := 74) (by decide +kernel), List.mem_of_getElem? (i := 492) (by decide +kernel), List.mem_of_getElem? (i := 493) (by decide +kernel)⟩
theorem lw_p11 : lw_okq (⟨"TunnelLamps$Mine", "fetchesOil", "(LTunnelLamps$Order;)Z"⟩, 16) := ⟨⟨by decide +kernel, by decide +kernel⟩, List.mem_of_getElem? (i := 74) (by decide +kernel), List.mem_of_getElem? (i := 499) (by decide +kernel), List.mem_of_getElem? (i := 500) (by decide +kernel)⟩
theorem lw_p12 : lw_okq (⟨"TunnelLamps$Mine", "makesStep", "()V"⟩, 16) := ⟨⟨by decide +kernel, by decide +kernel⟩, List.mem_of_getElem? (i := 74) (by decide +kernel), List.mem_of_getElem? (i := 503) (by decide +kernel), List.mem_of_getElem? (i := 504) (by decide +kernel)⟩
theorem lw_p13 : lw_okq (⟨"TunnelLamps$Mine", "ladSeesTheDark", "()V"⟩, 16) := ⟨⟨by decide +kernel, by decide +kernel⟩, List.mem_of_getElem? (i := 74) (by decide +kernel), List.mem_of_getElem? (i := 511) (by decide +kernel), List.mem_of_getElem? (i := 512) (by decide +kernel)⟩
theorem lw_p14 : lw_okq (⟨"TunnelLamps$Mine", "fullestLampBelow", "(II)I"⟩, 16) := ⟨⟨by decide +kernel, by decide +kernel⟩, List.mem_of_getElem? (i := 74) (by decide +kernel), List.mem_of_getElem? (i := 519) (by decide +kernel), List.mem_of_getElem? (i := 520) (by decide +kernel)⟩
theorem lw_p15 : lw_okq (⟨"TunnelLamps$Lad", "addOrder", "(IIIII)I"⟩, 7) := ⟨⟨by decide +kernel, by decide +kernel⟩, List.mem_of_getElem? (i := 86) (by decide +kernel), List.mem_of_getElem? (i := 528) (by decide +kernel), List.mem_of_getElem? (i := 529) (by decide +kernel)⟩
def lw_privs_1 : List (MethodName × Nat) := [(⟨"TunnelLamps$MineText", "readNumbers", "(LTunnelLamps$Command;)Z"⟩, 3), (⟨"TunnelLamps$MineText", "readNumber", "(LTunnelLamps$Command;IIII)Z"⟩, 3), (⟨"TunnelLamps$MineText", "readGallery", "(LTunnelLamps$Command;I)Z"⟩, 3), (⟨"TunnelLamps$MineText", "readCell", "(LTunnelLamps$Command;I)Z"⟩, 3), (⟨"TunnelLamps$MineText", "readLamp", "(LTunnelLamps$Command;)Z"⟩, 3), (⟨"TunnelLamps$Mine", "minersWork", "()V"⟩, 16), (⟨"TunnelLamps$Mine", "lampsBurn", "()V"⟩, 16), (⟨"TunnelLamps$Mine", "doesWhatNeedsNoStep", "()Z"⟩, 16), (⟨"TunnelLamps$Mine", "takesLamp", "(LTunnelLamps$Order;LTunnelLamps$Lamp;)Z"⟩, 16), (⟨"TunnelLamps$Mine", "hangsLamp", "(LTunnelLamps$Order;LTunnelLamps$Lamp;)Z"⟩, 16), (⟨"TunnelLamps$Mine", "poursOil", "(LTunnelLamps$Lamp;)Z"⟩, 16), (⟨"TunnelLamps$Mine", "fetchesOil", "(LTunnelLamps$Order;)Z"⟩, 16), (⟨"TunnelLamps$Mine", "makesStep", "()V"⟩, 16), (⟨"TunnelLamps$Mine", "ladSeesTheDark", "()V"⟩, 16), (⟨"TunnelLamps$Mine", "fullestLampBelow", "(II)I"⟩, 16), (⟨"TunnelLamps$Lad", "addOrder", "(IIIII)I"⟩, 7)]
theorem lw_r1 : ∀ q ∈ lw_privs_1, lw_okq q := List.forall_mem_cons.mpr ⟨lw_p0, List.forall_mem_cons.mpr ⟨lw_p1, List.forall_mem_cons.mpr ⟨lw_p2, List.forall_mem_cons.mpr ⟨lw_p3, List.forall_mem_cons.mpr ⟨lw_p4, List.forall_mem_cons.mpr ⟨lw_p5, List.forall_mem_cons.mpr ⟨lw_p6, List.forall_mem_cons.mpr ⟨lw_p7, List.forall_mem_cons.mpr ⟨lw_p8, List.forall_mem_cons.mpr ⟨lw_p9, List.forall_mem_cons.mpr ⟨lw_p10, List.forall_mem_cons.mpr ⟨lw_p11, List.forall_mem_cons.mpr ⟨lw_p12, List.forall_mem_cons.mpr ⟨lw_p13, List.forall_mem_cons.mpr ⟨lw_p14, List.forall_mem_cons.mpr ⟨lw_p15, fun _ h => absurd h List.not_mem_nil⟩⟩⟩⟩⟩⟩⟩⟩⟩⟩⟩⟩⟩⟩⟩⟩
theorem lw_p16 : lw_okq (⟨"java/lang/Throwable", "fillInStackTrace", "(I)Ljava/lang/Throwable;"⟩, 6) := ⟨⟨by decide +kernel, by decide +kernel⟩, List.mem_of_getElem? (i := 597) (by decide +kernel), List.mem_of_getElem? (i := 595) (by decide +kernel), List.mem_of_getElem? (i := 596) (by decide +kernel)⟩
theorem lw_p17 : lw_okq (⟨"TunnelLamps$Mine", "addGallery", "(I)I"⟩, 16) := ⟨⟨by decide +kernel, by decide +kernel⟩, List.mem_of_getElem? (i := 74) (by decide +kernel), List.mem_of_getElem? (i := 710) (by decide +kernel), List.mem_of_getElem? (i := 711) (by decide +kernel)⟩
theorem lw_p18 : lw_okq (⟨"TunnelLamps$Mine", "addMiner", "(II)I"⟩, 16) := ⟨⟨by decide +kernel, by decide +kernel⟩, List.mem_of_getElem? (i := 74) (by decide +kernel), List.mem_of_getElem? (i := 714) (by decide +kernel), List.mem_of_getElem? (i := 715) (by decide +kernel)⟩
theorem lw_p19 : lw_okq (⟨"TunnelLamps$Mine", "sendMiner", "(II)I"⟩, 16) := ⟨⟨by decide +kernel, by decide +kernel⟩, List.mem_of_getElem? (i := 74) (by decide +kernel), List.mem_of_getElem? (i := 718) (by decide +kernel), List.mem_of_getElem? (i := 719) (by decide +kernel)⟩
theorem lw_p20 : lw_okq (⟨"TunnelLamps$Mine", "addLamp", "(IIII)I"⟩, 16) := ⟨⟨by decide +kernel, by decide +kernel⟩, List.mem_of_getElem? (i := 74) (by decide +kernel), List.mem_of_getElem? (i := 722) (by decide +kernel), List.mem_of_getElem? (i := 723) (by decide +kernel)⟩
theorem lw_p21 : lw_okq (⟨"TunnelLamps$Mine", "bringOil", "(I)I"⟩, 16) := ⟨⟨by decide +kernel, by decide +kernel⟩, List.mem_of_getElem? (i := 74) (by decide +kernel), List.mem_of_getElem? (i := 726) (by decide +kernel), List.mem_of_getElem? (i := 727) (by decide +kernel)⟩
theorem lw_p22 : lw_okq (⟨"TunnelLamps$Mine", "changeSetting", "(II)I"⟩, 16) := ⟨⟨by decide +kernel, by decide +kernel⟩, List.mem_of_getElem? (i := 74) (by decide +kernel), List.mem_of_getElem? (i := 734) (by decide +kernel), List.mem_of_getElem? (i := 735) (by decide +kernel)⟩
theorem lw_p23 : lw_okq (⟨"TunnelLamps", "act", "(IIIII)I"⟩, 8) := ⟨⟨by decide +kernel, by decide +kernel⟩, List.mem_of_getElem? (i := 20) (by decide +kernel), List.mem_of_getElem? (i := 823) (by decide +kernel), List.mem_of_getElem? (i := 824) (by decide +kernel)⟩
theorem lw_p24 : lw_okq (⟨"TunnelLampsModel", "refused", "(I)Z"⟩, 11) := ⟨⟨by decide +kernel, by decide +kernel⟩, List.mem_of_getElem? (i := 998) (by decide +kernel), List.mem_of_getElem? (i := 1054) (by decide +kernel), List.mem_of_getElem? (i := 1055) (by decide +kernel)⟩
theorem lw_p25 : lw_okq (⟨"TunnelLampsModel", "readText", "([I)I"⟩, 11) := ⟨⟨by decide +kernel, by decide +kernel⟩, List.mem_of_getElem? (i := 998) (by decide +kernel), List.mem_of_getElem? (i := 1066) (by decide +kernel), List.mem_of_getElem? (i := 1067) (by decide +kernel)⟩
theorem lw_p26 : lw_okq (⟨"TunnelLampsModel", "readCommand", "([I)Z"⟩, 11) := ⟨⟨by decide +kernel, by decide +kernel⟩, List.mem_of_getElem? (i := 998) (by decide +kernel), List.mem_of_getElem? (i := 1070) (by decide +kernel), List.mem_of_getElem? (i := 1071) (by decide +kernel)⟩
theorem lw_p27 : lw_okq (⟨"TunnelLampsModel", "figures", "(IIII)I"⟩, 11) := ⟨⟨by decide +kernel, by decide +kernel⟩, List.mem_of_getElem? (i := 998) (by decide +kernel), List.mem_of_getElem? (i := 1074) (by decide +kernel), List.mem_of_getElem? (i := 1075) (by decide +kernel)⟩
theorem lw_p28 : lw_okq (⟨"TunnelLampsModel", "done", "(Z)Z"⟩, 11) := ⟨⟨by decide +kernel, by decide +kernel⟩, List.mem_of_getElem? (i := 998) (by decide +kernel), List.mem_of_getElem? (i := 1082) (by decide +kernel), List.mem_of_getElem? (i := 1083) (by decide +kernel)⟩
theorem lw_p29 : lw_okq (⟨"TunnelLampsModel", "gallerySign", "(I)I"⟩, 11) := ⟨⟨by decide +kernel, by decide +kernel⟩, List.mem_of_getElem? (i := 998) (by decide +kernel), List.mem_of_getElem? (i := 1086) (by decide +kernel), List.mem_of_getElem? (i := 1087) (by decide +kernel)⟩
theorem lw_p30 : lw_okq (⟨"TunnelLampsModel", "readLamp", "([I)Z"⟩, 11) := ⟨⟨by decide +kernel, by decide +kernel⟩, List.mem_of_getElem? (i := 998) (by decide +kernel), List.mem_of_getElem? (i := 1099) (by decide +kernel), List.mem_of_getElem? (i := 1100) (by decide +kernel)⟩
theorem lw_p31 : lw_okq (⟨"TunnelLampsModel", "cellSign", "(I)I"⟩, 11) := ⟨⟨by decide +kernel, by decide +kernel⟩, List.mem_of_getElem? (i := 998) (by decide +kernel), List.mem_of_getElem? (i := 1103) (by decide +kernel), List.mem_of_getElem? (i := 1104) (by decide +kernel)⟩
def lw_privs_2 : List (MethodName × Nat) := [(⟨"java/lang/Throwable", "fillInStackTrace", "(I)Ljava/lang/Throwable;"⟩, 6), (⟨"TunnelLamps$Mine", "addGallery", "(I)I"⟩, 16), (⟨"TunnelLamps$Mine", "addMiner", "(II)I"⟩, 16), (⟨"TunnelLamps$Mine", "sendMiner", "(II)I"⟩, 16), (⟨"TunnelLamps$Mine", "addLamp", "(IIII)I"⟩, 16), (⟨"TunnelLamps$Mine", "bringOil", "(I)I"⟩, 16), (⟨"TunnelLamps$Mine", "changeSetting", "(II)I"⟩, 16), (⟨"TunnelLamps", "act", "(IIIII)I"⟩, 8), (⟨"TunnelLampsModel", "refused", "(I)Z"⟩, 11), (⟨"TunnelLampsModel", "readText", "([I)I"⟩, 11), (⟨"TunnelLampsModel", "readCommand", "([I)Z"⟩, 11), (⟨"TunnelLampsModel", "figures", "(IIII)I"⟩, 11), (⟨"TunnelLampsModel", "done", "(Z)Z"⟩, 11), (⟨"TunnelLampsModel", "gallerySign", "(I)I"⟩, 11), (⟨"TunnelLampsModel", "readLamp", "([I)Z"⟩, 11), (⟨"TunnelLampsModel", "cellSign", "(I)I"⟩, 11)]
theorem lw_r2 : ∀ q ∈ lw_privs_2, lw_okq q := List.forall_mem_cons.mpr ⟨lw_p16, List.forall_mem_cons.mpr ⟨lw_p17, List.forall_mem_cons.mpr ⟨lw_p18, List.forall_mem_cons.mpr ⟨lw_p19, List.forall_mem_cons.mpr ⟨lw_p20, List.forall_mem_cons.mpr ⟨lw_p21, List.forall_mem_cons.mpr ⟨lw_p22, List.forall_mem_cons.mpr ⟨lw_p23, List.forall_mem_cons.mpr ⟨lw_p24, List.forall_mem_cons.mpr ⟨lw_p25, List.forall_mem_cons.mpr ⟨lw_p26, List.forall_mem_cons.mpr ⟨lw_p27, List.forall_mem_cons.mpr ⟨lw_p28, List.forall_mem_cons.mpr ⟨lw_p29, List.forall_mem_cons.mpr ⟨lw_p30, List.forall_mem_cons.mpr ⟨lw_p31, fun _ h => absurd h List.not_mem_nil⟩⟩⟩⟩⟩⟩⟩⟩⟩⟩⟩⟩⟩⟩⟩⟩
theorem lw_p32 : lw_okq (⟨"TunnelLampsModel", "readHang", "([I)Z"⟩, 11) := ⟨⟨by decide +kernel, by decide +kernel⟩, List.mem_of_getElem? (i := 998) (by decide +kernel), List.mem_of_getElem? (i := 1122) (by decide +kernel), List.mem_of_getElem? (i := 1123) (by decide +kernel)⟩
theorem lw_p33 : lw_okq (⟨"TunnelLampsModel", "lampSign", "(I)I"⟩, 11) := ⟨⟨by decide +kernel, by decide +kernel⟩, List.mem_of_getElem? (i := 998) (by decide +kernel), List.mem_of_getElem? (i := 1126) (by decide +kernel), List.mem_of_getElem? (i := 1127) (by decide +kernel)⟩
theorem lw_p34 : lw_okq (⟨"TunnelLampsModel", "stepsLeft", "()I"⟩, 11) := ⟨⟨by decide +kernel, by decide +kernel⟩, List.mem_of_getElem? (i := 998) (by decide +kernel), List.mem_of_getElem? (i := 1254) (by decide +kernel), List.mem_of_getElem? (i := 1255) (by decide +kernel)⟩
theorem lw_p35 : lw_okq (⟨"TunnelLampsModel", "remember", "()V"⟩, 11) := ⟨⟨by decide +kernel, by decide +kernel⟩, List.mem_of_getElem? (i := 998) (by decide +kernel), List.mem_of_getElem? (i := 1271) (by decide +kernel), List.mem_of_getElem? (i := 1272) (by decide +kernel)⟩
theorem lw_p36 : lw_okq (⟨"TunnelLampsModel", "command", "(II)Z"⟩, 11) := ⟨⟨by decide +kernel, by decide +kernel⟩, List.mem_of_getElem? (i := 998) (by decide +kernel), List.mem_of_getElem? (i := 1350) (by decide +kernel), List.mem_of_getElem? (i := 1351) (by decide +kernel)⟩
theorem lw_p37 : lw_okq (⟨"TunnelLampsModel", "sends", "(II)Z"⟩, 11) := ⟨⟨by decide +kernel, by decide +kernel⟩, List.mem_of_getElem? (i := 998) (by decide +kernel), List.mem_of_getElem? (i := 1354) (by decide +kernel), List.mem_of_getElem? (i := 1355) (by decide +kernel)⟩
theorem lw_p38 : lw_okq (⟨"TunnelLampsModel", "turnThing", "(II)V"⟩, 11) := ⟨⟨by decide +kernel, by decide +kernel⟩, List.mem_of_getElem? (i := 998) (by decide +kernel), List.mem_of_getElem? (i := 1364) (by decide +kernel), List.mem_of_getElem? (i := 1365) (by decide +kernel)⟩
theorem lw_p39 : lw_okq (⟨"TunnelLampsModel", "turnOrder", "(II)V"⟩, 11) := ⟨⟨by decide +kernel, by decide +kernel⟩, List.mem_of_getElem? (i := 998) (by decide +kernel), List.mem_of_getElem? (i := 1368) (by decide +kernel), List.mem_of_getElem? (i := 1369) (by decide +kernel)⟩
def lw_privs_3 : List (MethodName × Nat) := [(⟨"TunnelLampsModel", "readHang", "([I)Z"⟩, 11), (⟨"TunnelLampsModel", "lampSign", "(I)I"⟩, 11), (⟨"TunnelLampsModel", "stepsLeft", "()I"⟩, 11), (⟨"TunnelLampsModel", "remember", "()V"⟩, 11), (⟨"TunnelLampsModel", "command", "(II)Z"⟩, 11), (⟨"TunnelLampsModel", "sends", "(II)Z"⟩, 11), (⟨"TunnelLampsModel", "turnThing", "(II)V"⟩, 11), (⟨"TunnelLampsModel", "turnOrder", "(II)V"⟩, 11)]
theorem lw_r3 : ∀ q ∈ lw_privs_3, lw_okq q := List.forall_mem_cons.mpr ⟨lw_p32, List.forall_mem_cons.mpr ⟨lw_p33, List.forall_mem_cons.mpr ⟨lw_p34, List.forall_mem_cons.mpr ⟨lw_p35, List.forall_mem_cons.mpr ⟨lw_p36, List.forall_mem_cons.mpr ⟨lw_p37, List.forall_mem_cons.mpr ⟨lw_p38, List.forall_mem_cons.mpr ⟨lw_p39, fun _ h => absurd h List.not_mem_nil⟩⟩⟩⟩⟩⟩⟩⟩
def lw_privs : List (MethodName × Nat) := lw_privs_1 ++ (lw_privs_2 ++ (lw_privs_3))
def lw_tbl : List Cond := k2_sels lw_privs ++ tables_1
theorem lw_privs_ok : ∀ q ∈ lw_privs, lw_okq q := by
  show ∀ q ∈ lw_privs_1 ++ (lw_privs_2 ++ (lw_privs_3)), lw_okq q
  exact List.forall_mem_append.mpr ⟨lw_r1, List.forall_mem_append.mpr ⟨lw_r2, lw_r3⟩⟩

/-! ===== BEGIN words of one list among another's, by their places ===== -/
theorem goodIn_r {big : List Cond} (ws : List Cond) (ps : List Nat) (hp : ws = ps.filterMap (fun i => big[i]?)) (h : ws.all goodWord = true) : GoodIn big ws := by
  intro w hw
  have h1 := List.all_eq_true.mp h w hw
  rw [hp] at hw
  obtain ⟨i, -, hi⟩ := List.mem_filterMap.mp hw
  have hm : w ∈ big := by first | exact List.mem_of_getElem? hi | exact List.getElem?_mem hi
  exact ⟨hm, good_of_word h1⟩
theorem goodIn_app {big a b : List Cond} (ha : GoodIn big a) (hb : GoodIn big b) : GoodIn big (a ++ b) := fun w h => (List.mem_append.mp h).elim (ha w) (hb w)
theorem goodIn_ca {big a b : List Cond} {c : Cond} (ha : GoodIn big (c :: a)) (hb : GoodIn big b) : GoodIn big (c :: (a ++ b)) := fun w h => (List.mem_cons.mp h).elim (fun e => ha w (List.mem_cons.mpr (Or.inl e))) (fun h => (List.mem_append.mp h).elim (fun h => ha w (List.mem_cons.mpr (Or.inr h))) (hb w))
theorem goodIn_sub {big ws : List Cond} (hm : ∀ w ∈ ws, w ∈ big) (h : ws.all goodWord = true) : GoodIn big ws := fun w hw => ⟨hm w hw, good_of_word (List.all_eq_true.mp h w hw)⟩
/-! ===== END ===== -/

/-! ===== BEGIN exceptions that leave a method, and their catching by the caller (launches without stack traces) ===== -/
section VXA
/-! The laws vx_back, vx_callV, vx_callS, vx_callSW, vx_throw0, vx_throwS follow proofs of the library, with one case more: JvmDerived/Free/Laws.lean (Back.of_free), Shelf42/LK1.lean (callV, callS), Shelf/KitTraced.lean (throwNew0V, throwNewS). -/
/-- where a method has thrown q: the class by its name, the cell, what was written, the world -/
def vx_T (XC : String → State → State → Prop) (st : State) (q : Addr) (t : State) (mc ms : Nat) (free : Addr → Prop) : Prop :=
  ∃ (E : String) (ce : Cell) (L : List Loc), XC E st t ∧ t.heap[q]? = some ce ∧ ce.vm = .none ∧ st.vm.findClass E = some ce.cls ∧ st.WarmedH t.vm ∧ st.sameButNew ({ t with vm := st.vm } : State) L mc ms ∧ ∀ z ∈ L, free z.base
def vx_Q (Qc : Array Value → State → Outcome → State → Prop) (XC : String → State → State → Prop) (mc ms : Nat) (free : Addr → Prop) : Array Value → State → Outcome → State → Prop := fun a st o t =>
  (Qc a st o t ∧ ∃ L, FrameEnd st o t L mc ms ∧ ∀ q ∈ L, free q.base) ∨ ∃ q, o = .threw q ∧ vx_T XC st q t mc ms free
/-- a callee that returns or throws -/
def vx_Met (l : Launch) (y : MethodName) (ws : List Cond) (rm : Room) (Pc : Array Value → State → Prop) (Qc : Array Value → State → Outcome → State → Prop) (XC : String → State → State → Prop) (mc ms : Nat) (free : Addr → Prop) : Prop :=
  MetFree l y (headSpec ws rm) Pc (fun _ _ _ _ _ => True) (vx_Q Qc XC mc ms free)
def vx_Post (XC : String → State → State → Prop) (mc ms : Nat) (free : Addr → Prop) : Pt → Array Value → Addr → Pt → Prop := fun A a q B =>
  ∃ (g : JFrame) (mk : MethodId) (t : State) (L : List Loc) (E : String) (ce : Cell), B.U.heap = t.heap ∧ B.U.vm = t.vm ∧ XC E (A.U.calling g mk a) t ∧ t.heap[q]? = some ce ∧ ce.vm = .none ∧ A.U.vm.findClass E = some ce.cls ∧ B.locs = A.locs ++ L ∧ (∀ z ∈ L, free z.base) ∧ B.cells = A.cells + mc ∧ B.slots = A.slots + ms
def vx_Back (l : Launch) (R : Room) (p : Program) (e : Env) (below : List Frame) (s : State) (sargs : Array Value) (y : MethodName) (len W9 : Nat)
    (Pre : Pt → Array Value → Prop) (Post : Pt → Array Value → Option Value → Pt → Prop) (PostX : Pt → Array Value → Addr → Pt → Prop) : Prop :=
  ∀ (m : MethodId) (meth : Method) (c : Code) (A : Pt) (g : JFrame) (ig : Instr) (mk : MethodId) (a : Array Value),
    Stand p l e R s m sargs below meth c A.U A.locs A.cells A.slots → g.method = m → g.locals.size = c.maxLocals → decode c.code g.pc = .ok (ig, len) →
    2 * g.monitorRoom + (g.stack.map fun v => v.category).sum ≤ W9 → A.U.methodNamed? y = some mk → Pre A a →
    (∃ (v : Option Value) (B : Pt), Stand p l e R s m sargs below meth c B.U B.locs B.cells B.slots ∧ Post A a v B ∧
      Steps p.tables e below (doInvoke e (A.U.setTop g) [] mk a).1 (B.U.setTop { g with pc := g.pc + len, stack := v.toList ++ g.stack })) ∨
    (∃ (q : Addr) (B : Pt), Stand p l e R s m sargs below meth c B.U B.locs B.cells B.slots ∧ PostX A a q B ∧
      Steps p.tables e below (doInvoke e (A.U.setTop g) [] mk a).1 ((B.U.setTop g).pushFrame (.throwing q)))
section Payer
variable {l : Launch} {R : Room} {p : Program} {e : Env} {below : List Frame} {s : State} {sargs : Array Value} {y : MethodName} {len W9 : Nat}
theorem vx_back {ws : List Cond} {rm : Room} {Pc : Array Value → State → Prop} {Qc : Array Value → State → Outcome → State → Prop} {XC : String → State → State → Prop} {mc ms : Nat} {free : Addr → Prop} {bytes : ByteArray} {maxL : Nat} {ret : Option FieldType}
    (hM : vx_Met l y ws rm Pc Qc XC mc ms free) (hblind : FrameBlind Pc) (hrc : rm.cells = mc) (hrs : rm.slots = ms)
    (hframes : rm.frames + 1 ≤ R.frames) (hlocals : W9 + (maxL + 11) + rm.locals ≤ R.locals)
    (hws : ∀ w ∈ ws, ∀ a' U, s.WarmedH U.vm → w.before a' U = true) (hcode : Cond.code y bytes maxL ret ∈ ws) (hinit : ∀ a' U, s.WarmedH U.vm → (Cond.initialized y.cls).before a' U = true) :
    vx_Back l R p e below s sargs y len W9 (PreOf R mc ms Pc) (PostOf Qc mc ms free) (vx_Post XC mc ms free) := by
  intro m meth c A g ig mk a X hg hsize hdg hW hn hp
  have h1 : (headSpec ws rm).pre.before a A.U = true := atoms_intro fun w hw => hws w hw _ _ X.warmed
  have h2 : (Cond.code y bytes maxL ret).before a A.U = true := hws _ hcode _ _ X.warmed
  have h3 : (Cond.initialized y.cls).before a A.U = true := hinit _ _ X.warmed
  have h4 : A.cells + (headSpec ws rm).room.cells ≤ R.cells := by rw [show (headSpec ws rm).room.cells = mc from hrc]; exact hp.1
  have h5 : A.slots + (headSpec ws rm).room.slots ≤ R.slots := by rw [show (headSpec ws rm).room.slots = ms from hrs]; exact hp.2.1
  have hPc : Pc a (A.U.calling g mk a) := hblind _ _ _ _ hp.2.2
  obtain ⟨U, Ls, c0, s0⟩ := A
  dsimp only [Pt.U, Pt.locs, Pt.cells, Pt.slots] at h1 h2 h3 h4 h5 X hn hPc ⊢
  obtain ⟨methY, cY, hmY, hcY, -, hlY, -, -, -, -⟩ := Cond.code_spec hn h2
  obtain ⟨kY, hkY, -⟩ := className_of_methodNamed hn
  have hinitY : kY.init = .initialized := Cond.initialized_spec (findClass_of_methodNamed hn) hkY h3
  have h : At U g.method c below := by rw [hg]; exact X.here
  have hlocals9 : W9 + (maxL + 11) + (headSpec ws rm).room.locals ≤ R.locals := hlocals
  have happ : (headSpec ws rm).appliesLoose y e.platform (U.calling g mk a) = true :=
    Spec.appliesLoose_calling (g := g) h hdg hn hkY hinitY
      (X.room_calling (g := g) (R' := (headSpec ws rm).room) hsize hmY hcY hframes (by rw [hlY]; omega) h4 h5) h1
  obtain ⟨mid, hmid⟩ := h.above
  have hfr : (U.setTop g).frames = (.java g :: mid) ++ below := by rw [State.frames_setTop' g h.top, hmid]; rfl
  obtain ⟨o, s₂, hsteps, -, hend, hq⟩ := Steps.callFree hM p X.admits X.cas X.clock (acts := []) hfr happ hPc trivial
  have hq' : vx_Q Qc XC mc ms free a (U.calling g mk a) o s₂ := hq
  rw [State.frames_setTop' g h.top] at hend
  obtain ⟨g₀, hg0⟩ := Option.isSome_iff_exists.mp h.top
  obtain ⟨r, hr⟩ := State.topJava?_eq_some.mp hg0
  have hr' : (({ U with heap := s₂.heap, slotsUsed := s₂.slotsUsed } : State).setVm s₂.vm).frames = .java g₀ :: r := hr
  rcases hq' with ⟨hqc, L, hfe, hL⟩ | ⟨q, rfl, E, ce, L, hx, hce, hcv, hcl, hW₂, hsm, hL⟩
  · obtain ⟨⟨v, rfl⟩, hW₂, e2, q2, q3, q4, q5, q6⟩ := id hfe
    have e3 : s₂ = ({ (U.calling g mk a).setFrames s₂.frames with heap := s₂.heap, slotsUsed := s₂.slotsUsed } : State).setVm s₂.vm := by
      have : s₂ = ({ s₂ with vm := (U.calling g mk a).vm } : State).setVm s₂.vm := rfl
      rw [e2] at this
      exact this
    obtain ⟨c₂, i₂, len₂, hc₂, hd₂, hf₂⟩ := hend
    have hW' : U.WarmedH s₂.vm := hW₂
    have hcc : c₂ = c := by
      have h1 : s₂.code? g.method = U.code? g.method := by
        rw [State.code?_eq, State.code?_eq, hW'.alike.method?]
      exact Option.some.inj (hc₂.symm.trans (h1.trans h.code))
    subst hcc
    have hlen : len₂ = len := by rw [hdg] at hd₂; cases hd₂; rfl
    subst hlen
    have hs₂ : s₂ = (({ U with heap := s₂.heap, slotsUsed := s₂.slotsUsed } : State).setVm s₂.vm).setTop { g with pc := g.pc + len₂, stack := v.toList ++ g.stack } := by
      refine e3.trans ?_
      rw [hf₂, State.calling_eq h.top, State.setFrames_setFrames, State.setTop_of_frames _ hr', hr]
      rfl
    have hsame : U.sameButNew ({ U with heap := s₂.heap, slotsUsed := s₂.slotsUsed } : State) L mc ms := by
      refine ⟨?_, q2, q3, q4, q5, q6⟩
      obtain ⟨t, ht, -⟩ := State.frames_cons hr
      show ({ U with heap := s₂.heap, slotsUsed := s₂.slotsUsed } : State) = { U.setFrames U.frames with heap := s₂.heap, slotsUsed := s₂.slotsUsed }
      rw [State.setFrames_self ht]
    subst hg
    refine Or.inl ⟨v, ⟨(({ U with heap := s₂.heap, slotsUsed := s₂.slotsUsed } : State).setVm s₂.vm), Ls ++ L, c0 + mc, s0 + ms⟩,
      ⟨X.admits, X.cas, X.clock, X.frames, X.room, X.hears, X.method, X.code, (X.here.setHeapUsed s₂.heap s₂.slotsUsed).setVm hW'.alike, X.tail, State.WarmedH.trans X.warmed hW', X.limits, X.bytes, X.same.trans (hsame.setVm s.vm)⟩,
      ⟨g, mk, s₂, L, rfl, rfl, hqc, rfl, hL, rfl, rfl⟩, ?_⟩
    show Steps p.tables e below _ ((({ U with heap := s₂.heap, slotsUsed := s₂.slotsUsed } : State).setVm s₂.vm).setTop { g with pc := g.pc + len₂, stack := v.toList ++ g.stack })
    rw [← hs₂]
    exact hsteps
  · obtain ⟨e2, q2, q3, q4, q5, q6⟩ := id hsm
    have e3 : s₂ = ({ (U.calling g mk a).setFrames s₂.frames with heap := s₂.heap, slotsUsed := s₂.slotsUsed } : State).setVm s₂.vm := by
      have : s₂ = ({ s₂ with vm := (U.calling g mk a).vm } : State).setVm s₂.vm := rfl
      rw [e2] at this
      exact this
    have hf₂ : s₂.frames = .throwing q :: .java g :: U.frames.tail := hend
    have hW' : U.WarmedH s₂.vm := hW₂
    have hs₂ : s₂ = ((({ U with heap := s₂.heap, slotsUsed := s₂.slotsUsed } : State).setVm s₂.vm).setTop g).pushFrame (.throwing q) := by
      refine e3.trans ?_
      rw [hf₂, State.calling_eq h.top, State.setFrames_setFrames, State.pushFrame, State.frames_setTop _ hr', State.setTop_of_frames _ hr', State.setFrames_setFrames, hr]
      rfl
    have hsame : U.sameButNew ({ U with heap := s₂.heap, slotsUsed := s₂.slotsUsed } : State) L mc ms := by
      refine ⟨?_, q2, q3, q4, q5, q6⟩
      obtain ⟨t, ht, -⟩ := State.frames_cons hr
      show ({ U with heap := s₂.heap, slotsUsed := s₂.slotsUsed } : State) = { U.setFrames U.frames with heap := s₂.heap, slotsUsed := s₂.slotsUsed }
      rw [State.setFrames_self ht]
    subst hg
    refine Or.inr ⟨q, ⟨(({ U with heap := s₂.heap, slotsUsed := s₂.slotsUsed } : State).setVm s₂.vm), Ls ++ L, c0 + mc, s0 + ms⟩,
      ⟨X.admits, X.cas, X.clock, X.frames, X.room, X.hears, X.method, X.code, (X.here.setHeapUsed s₂.heap s₂.slotsUsed).setVm hW'.alike, X.tail, State.WarmedH.trans X.warmed hW', X.limits, X.bytes, X.same.trans (hsame.setVm s.vm)⟩,
      ⟨g, mk, s₂, L, E, ce, rfl, rfl, hx, hce, hcv, hcl, rfl, hL, rfl, rfl⟩, ?_⟩
    show Steps p.tables e below _ (((({ U with heap := s₂.heap, slotsUsed := s₂.slotsUsed } : State).setVm s₂.vm).setTop g).pushFrame (.throwing q))
    rw [← hs₂]
    exact hsteps
end Payer
section Calls
variable {p : Program} {l : Launch} {e : Env} {R : Room} {s : State} {m : MethodId} {args : Array Value} {below : List Frame} {meth : Method} {c : Code} {T : State} {locs : List Loc} {cells slots : Nat}
theorem vx_callV (X : Stand p l e R s m args below meth c T locs cells slots) (hexec : p.tables.exec = Jvm.exec) {own C : String} {index : Nat} {y : MethodName} {bytes : ByteArray} {maxL : Nat} {ret : Option FieldType}
    (hown : s.vm.findClass own = some m.cls) (hlink : (Cond.methodLink own index y).before args s = true) (hinst : (Cond.instanceMethod y).before args s = true) (hsel : (Cond.selects C y y).before args s = true)
    (hcode : (Cond.code y bytes maxL ret).before args s = true) (hy : y.cls ≠ "java/lang/invoke/MethodHandle" ∧ y.cls ≠ "java/lang/invoke/VarHandle")
    {W9 : Nat} {Pre : Pt → Array Value → Prop} {Post : Pt → Array Value → Option Value → Pt → Prop} {PostX : Pt → Array Value → Addr → Pt → Prop} (hK : vx_Back l R p e below s args y 3 W9 Pre Post PostX)
    {b : Addr} {cellB : Cell} (hcell : T.heap[b]? = some cellB) (hobj : cellB.vm.isStatics = false) (hcls : s.vm.findClass C = some cellB.cls)
    {g : JFrame} (hg : g.method = m) (hsize : g.locals.size = c.maxLocals) {argsL rest : List Value} (hlen : ∀ sig, parseMethodDescriptor y.desc = some sig → argsL.length = sig.parameters.length)
    (hstack : g.stack = argsL.reverse ++ .ref b :: rest) (hW : 2 * g.monitorRoom + (rest.map fun v => v.category).sum ≤ W9) (hdg : decode c.code g.pc = .ok (.invokevirtual index, 3))
    (hpre : ∀ vm₁, s.WarmedH vm₁ → Pre ⟨T.setVm vm₁, locs, cells, slots⟩ (Value.ref b :: argsL).toArray) :
    (∃ (v : Option Value) (vm₁ : Vm) (B : Pt), s.WarmedH vm₁ ∧ Stand p l e R s m args below meth c B.U B.locs B.cells B.slots ∧ Post ⟨T.setVm vm₁, locs, cells, slots⟩ (Value.ref b :: argsL).toArray v B ∧
      ∀ target, Steps p.tables e below (B.U.setTop { g with pc := g.pc + 3, stack := v.toList ++ rest }) target → Steps p.tables e below (T.setTop g) target) ∨
    (∃ (q : Addr) (vm₁ : Vm) (B : Pt), s.WarmedH vm₁ ∧ Stand p l e R s m args below meth c B.U B.locs B.cells B.slots ∧ PostX ⟨T.setVm vm₁, locs, cells, slots⟩ (Value.ref b :: argsL).toArray q B ∧
      Steps p.tables e below (T.setTop g) ((B.U.setTop { g with stack := rest }).pushFrame (.throwing q))) := by
  obtain ⟨mk, methM, hnamed, hmethM, hstM, habM⟩ := Cond.instanceMethod_spec hinst
  obtain ⟨methM', cM, hmethM', -, -, -, -, -, -, hsigM⟩ := Cond.code_spec hnamed hcode
  cases hmethM.symm.trans hmethM'
  obtain ⟨c2, r2, m2, q1, q2, q3, q4, kP, hkP, hkPi⟩ := Cond.selects_spec hsel
  cases hcls.symm.trans q1
  cases (State.methodFound?_of_named hnamed hy).symm.trans q2
  cases hnamed.symm.trans q3
  have hselP : selectMethod e.platform s.vm cellB.cls mk = .method mk := by rw [Launch.admits_selectMethod X.admits]; exact q4
  obtain ⟨vm₁, X₁, hstep₁⟩ := X.invokevirtual hexec hown hlink hnamed hmethM hstM hkP hkPi hy (a := b) (cell := cellB) hcell
    (fun z h => by rw [h] at hobj; cases hobj) hselP hmethM habM hkP hkPi (g := g) hg (argsL := argsL) (rest := rest) (hlen _ hsigM) hstack hdg
  rcases hK m meth c ⟨T.setVm vm₁, locs, cells, slots⟩ { g with stack := rest } (.invokevirtual index) mk (Value.ref b :: argsL).toArray X₁ hg hsize hdg hW (X₁.named hnamed) (hpre vm₁ X₁.warmed) with ⟨v, B, X', hpost, hsteps⟩ | ⟨q, B, X', hpost, hsteps⟩
  · exact Or.inl ⟨v, vm₁, B, X₁.warmed, X', hpost, fun target h => hstep₁ _ fun acts => by rw [doInvoke_state]; exact hsteps.trans h⟩
  · exact Or.inr ⟨q, vm₁, B, X₁.warmed, X', hpost, hstep₁ _ fun acts => by rw [doInvoke_state]; exact hsteps⟩
theorem vx_callS (X : Stand p l e R s m args below meth c T locs cells slots) (hexec : p.tables.exec = Jvm.exec) {own : String} {index : Nat} {y : MethodName} {bytes : ByteArray} {maxL : Nat} {ret : Option FieldType}
    (hown : s.vm.findClass own = some m.cls) (hlink : (Cond.methodLink own index y).before args s = true) (hstat : (Cond.static y).before args s = true) (hinit : (Cond.initialized y.cls).before args s = true)
    (hcode : (Cond.code y bytes maxL ret).before args s = true) (hy : y.cls ≠ "java/lang/invoke/MethodHandle" ∧ y.cls ≠ "java/lang/invoke/VarHandle")
    {W9 : Nat} {Pre : Pt → Array Value → Prop} {Post : Pt → Array Value → Option Value → Pt → Prop} {PostX : Pt → Array Value → Addr → Pt → Prop} (hK : vx_Back l R p e below s args y 3 W9 Pre Post PostX)
    {g : JFrame} (hg : g.method = m) (hsize : g.locals.size = c.maxLocals) {argsL rest : List Value} (hlen : ∀ sig, parseMethodDescriptor y.desc = some sig → argsL.length = sig.parameters.length)
    (hstack : g.stack = argsL.reverse ++ rest) (hW : 2 * g.monitorRoom + (rest.map fun v => v.category).sum ≤ W9) (hdg : decode c.code g.pc = .ok (.invokestatic index, 3))
    (hpre : ∀ vm₁, s.WarmedH vm₁ → Pre ⟨T.setVm vm₁, locs, cells, slots⟩ argsL.toArray) :
    (∃ (v : Option Value) (vm₁ : Vm) (B : Pt), s.WarmedH vm₁ ∧ Stand p l e R s m args below meth c B.U B.locs B.cells B.slots ∧ Post ⟨T.setVm vm₁, locs, cells, slots⟩ argsL.toArray v B ∧
      ∀ target, Steps p.tables e below (B.U.setTop { g with pc := g.pc + 3, stack := v.toList ++ rest }) target → Steps p.tables e below (T.setTop g) target) ∨
    (∃ (q : Addr) (vm₁ : Vm) (B : Pt), s.WarmedH vm₁ ∧ Stand p l e R s m args below meth c B.U B.locs B.cells B.slots ∧ PostX ⟨T.setVm vm₁, locs, cells, slots⟩ argsL.toArray q B ∧
      Steps p.tables e below (T.setTop g) ((B.U.setTop { g with stack := rest }).pushFrame (.throwing q))) := by
  obtain ⟨mk, hnamed⟩ := Cond.code_named hcode
  obtain ⟨methM, cM, hmethM, -, -, -, -, -, -, hsigM⟩ := Cond.code_spec hnamed hcode
  have hstatic : methM.isStatic = true := Cond.static_spec hnamed hmethM hstat
  obtain ⟨kP, hkP, -⟩ := className_of_methodNamed hnamed
  have hinitP : kP.init = .initialized := Cond.initialized_spec (findClass_of_methodNamed hnamed) hkP hinit
  obtain ⟨vm₁, X₁, hstep₁⟩ := X.invokestatic hexec hown hlink hnamed hmethM hstatic hkP hinitP hy (g := g) hg (argsL := argsL) (rest := rest) (hlen _ hsigM) hstack hdg
  rcases hK m meth c ⟨T.setVm vm₁, locs, cells, slots⟩ { g with stack := rest } (.invokestatic index) mk argsL.toArray X₁ hg hsize hdg hW (X₁.named hnamed) (hpre vm₁ X₁.warmed) with ⟨v, B, X', hpost, hsteps⟩ | ⟨q, B, X', hpost, hsteps⟩
  · exact Or.inl ⟨v, vm₁, B, X₁.warmed, X', hpost, fun target h => hstep₁ _ fun acts => by rw [doInvoke_state]; exact hsteps.trans h⟩
  · exact Or.inr ⟨q, vm₁, B, X₁.warmed, X', hpost, hstep₁ _ fun acts => by rw [doInvoke_state]; exact hsteps⟩
end Calls
theorem vx_cls {s : State} {T : State} {vm₁ : Vm} {E : String} {k : ClassId} (hW : s.WarmedH vm₁) (h : (T.setVm vm₁).vm.findClass E = some k) : s.vm.findClass E = some k := by
  have h1 : vm₁.findClass E = some k := h
  rw [hW.alike.findClass] at h1
  exact h1
/-- the method's frame g, with q thrown over it -/
def vx_W (p : Program) (l : Launch) (e : Env) (R : Room) (s : State) (m : MethodId) (args : Array Value) (below : List Frame) (meth : Method) (c : Code) (H : Heap) (locs : List Loc) (cells slots : Nat) (Q : State → Prop) (g : JFrame) (q : Addr) : Prop :=
  ∀ T : State, T.heap = H → Stand p l e R s m args below meth c T locs cells slots → ∃ t, Steps p.tables e below ((T.setTop g).pushFrame (.throwing q)) t ∧ Q t
def vx_Run (p : Program) (l : Launch) (e : Env) (R : Room) (s : State) (m : MethodId) (args : Array Value) (below : List Frame) (meth : Method) (c : Code) (H : Heap) (locs : List Loc) (cells slots mc ms : Nat) (g : JFrame) (rest : List Value) (Qa : State → Outcome → State → Prop) (XC : String → State → State → Prop) (free : Addr → Prop) : Prop :=
  ∀ T : State, T.heap = H → Stand p l e R s m args below meth c T locs cells slots →
    (∃ (v : Option Value) (st₀ t T' : State) (L : List Loc), st₀.heap = H ∧ Stand p l e R s m args below meth c T' (locs ++ L) (cells + mc) (slots + ms) ∧ (∀ q ∈ L, free q.base) ∧ T'.heap = t.heap ∧ T'.vm = t.vm ∧ Qa st₀ (.returned v) t ∧
      Goes p e below T g T' { g with pc := g.pc + 3, stack := v.toList ++ rest }) ∨
    (∃ (q : Addr) (st₀ t T' : State) (L : List Loc) (E : String) (ce : Cell), st₀.heap = H ∧ Stand p l e R s m args below meth c T' (locs ++ L) (cells + mc) (slots + ms) ∧ (∀ z ∈ L, free z.base) ∧ T'.heap = t.heap ∧ T'.vm = t.vm ∧ XC E st₀ t ∧ t.heap[q]? = some ce ∧ ce.vm = .none ∧ s.vm.findClass E = some ce.cls ∧
      Steps p.tables e below (T.setTop g) ((T'.setTop { g with stack := rest }).pushFrame (.throwing q)))
def vx_X {S : Type} (px : S → Prop) (B : String → S → State → Prop) (A : Nat → Prop) : String → State → State → Prop := fun E st t => ∃ u : S, px u ∧ B E u t ∧ va_F A st t
section Runs
variable {p : Program} {l : Launch} {e : Env} {R : Room} {s : State} {m : MethodId} {args : Array Value} {below : List Frame} {meth : Method} {c : Code} {H : Heap} {locs : List Loc} {cells slots : Nat}
variable {y : MethodName} {bytes cc : ByteArray} {maxL nL mc ms n index : Nat} {ret : Option FieldType} {ws : List Cond} {rm : Room} {Pc : Array Value → State → Prop} {Qc : Array Value → State → Outcome → State → Prop} {XC : String → State → State → Prop} {free : Addr → Prop} {Ts : List Cond} {own C : String} {b : Addr} {As rest : List Value} {g : JFrame}
theorem vx_callBack (cb : CallB R s args own index y bytes maxL ret ws rm mc ms n) (hM : vx_Met l y ws rm Pc Qc XC mc ms free) (hbl : FrameBlind Pc) : vx_Back l R p e below s args y 3 8 (PreOf R mc ms Pc) (PostOf Qc mc ms free) (vx_Post XC mc ms free) := by
  obtain ⟨hrc, hrs, hfr, hlo, hws, hcw, -, hini, -⟩ := cb
  exact vx_back (bytes := bytes) (maxL := maxL) (ret := ret) hM hbl hrc hrs hfr hlo hws hcw (fun a' U hW => word_at hW (Or.inl (by first | rfl | simp [Cond.onTables, Cond.keeps, Cond.steady])) hini)
theorem vx_runV (S : CallFix p m c cc nL s args Ts own) (hM : vx_Met l y ws rm Pc Qc XC mc ms free) (cw : CallW R s args own C index y bytes maxL ret ws rm mc ms n) (hp : PreV s H C b Pc As)
    (hg : g.method = m) (hn : As.length = n) (hsize : g.locals.size = nL) (hstack : g.stack = As.reverse ++ .ref b :: rest) (hW : 2 * g.monitorRoom + (rest.map fun v => v.category).sum ≤ 8) (hdg : decode cc g.pc = .ok (.invokevirtual index, 3)) (hf : cells + mc ≤ R.cells ∧ slots + ms ≤ R.slots) :
    vx_Run p l e R s m args below meth c H locs cells slots mc ms g rest (Qc (Value.ref b :: As).toArray) XC free := by
  have hK : vx_Back l R p e below s args y 3 8 (PreOf R mc ms Pc) (PostOf Qc mc ms free) (vx_Post XC mc ms free) := vx_callBack cw.1 hM hp.1
  obtain ⟨⟨-, -, -, -, -, -, hcode, -, hy, hlen, hl⟩, hin, hse⟩ := cw
  obtain ⟨hx, hb, hml, ho, -⟩ := S
  obtain ⟨-, ⟨cellB, hcB, hoB, hclB⟩, hPc⟩ := hp
  intro T hT X
  rcases vx_callV X hx (C := C) (bytes := bytes) (maxL := maxL) (ret := ret) ho hl hin hse hcode hy hK (by rw [hT]; exact hcB) hoB hclB hg (hsize.trans hml.symm) (argsL := As) (rest := rest) (fun sig h => hn.trans (hlen sig h)) hstack hW (by rw [hb]; exact hdg)
    (fun vm₁ hW₁ => ⟨hf.1, hf.2, hPc (T.setVm vm₁) hT hW₁⟩) with ⟨v, vm₁, ⟨U', l2, c2, s2⟩, hW₁, X', ⟨g', mk, t, L, e1, e2, hq, h1, hL, h2, h3⟩, st⟩ | ⟨q, vm₁, ⟨U', l2, c2, s2⟩, hW₁, X', ⟨g', mk, t, L, E, ce, e1, e2, hq, hce, hcv, hcl, h1, hL, h2, h3⟩, st⟩
  · dsimp only [Pt.U, Pt.locs, Pt.cells, Pt.slots] at X' e1 e2 h1 h2 h3 st
    subst h1; subst h2; subst h3
    exact Or.inl ⟨v, (T.setVm vm₁).calling g' mk (Value.ref b :: As).toArray, t, U', L, hT, X', hL, e1, e2, hq, st⟩
  · dsimp only [Pt.U, Pt.locs, Pt.cells, Pt.slots] at X' e1 e2 h1 h2 h3 st hcl
    subst h1; subst h2; subst h3
    exact Or.inr ⟨q, (T.setVm vm₁).calling g' mk (Value.ref b :: As).toArray, t, U', L, E, ce, hT, X', hL, e1, e2, hq, hce, hcv, vx_cls hW₁ hcl, st⟩
theorem vx_runS (S : CallFix p m c cc nL s args Ts own) (hM : vx_Met l y ws rm Pc Qc XC mc ms free) (cw : CallB R s args own index y bytes maxL ret ws rm mc ms n ∧ (Cond.static y).before args s = true) (hp : PreS s H Pc As)
    (hg : g.method = m) (hn : As.length = n) (hsize : g.locals.size = nL) (hstack : g.stack = As.reverse ++ rest) (hW : 2 * g.monitorRoom + (rest.map fun v => v.category).sum ≤ 8) (hdg : decode cc g.pc = .ok (.invokestatic index, 3)) (hf : cells + mc ≤ R.cells ∧ slots + ms ≤ R.slots) :
    vx_Run p l e R s m args below meth c H locs cells slots mc ms g rest (Qc As.toArray) XC free := by
  have hK : vx_Back l R p e below s args y 3 8 (PreOf R mc ms Pc) (PostOf Qc mc ms free) (vx_Post XC mc ms free) := vx_callBack cw.1 hM hp.1
  obtain ⟨⟨-, -, -, -, -, -, hcode, hini, hy, hlen, hl⟩, hstt⟩ := cw
  obtain ⟨hx, hb, hml, ho, -⟩ := S
  intro T hT X
  rcases vx_callS X hx (bytes := bytes) (maxL := maxL) (ret := ret) ho hl hstt hini hcode hy hK hg (hsize.trans hml.symm) (argsL := As) (rest := rest) (fun sig h => hn.trans (hlen sig h)) hstack hW (by rw [hb]; exact hdg)
    (fun vm₁ hW₁ => ⟨hf.1, hf.2, hp.2 (T.setVm vm₁) hT hW₁⟩) with ⟨v, vm₁, ⟨U', l2, c2, s2⟩, hW₁, X', ⟨g', mk, t, L, e1, e2, hq, h1, hL, h2, h3⟩, st⟩ | ⟨q, vm₁, ⟨U', l2, c2, s2⟩, hW₁, X', ⟨g', mk, t, L, E, ce, e1, e2, hq, hce, hcv, hcl, h1, hL, h2, h3⟩, st⟩
  · dsimp only [Pt.U, Pt.locs, Pt.cells, Pt.slots] at X' e1 e2 h1 h2 h3 st
    subst h1; subst h2; subst h3
    exact Or.inl ⟨v, (T.setVm vm₁).calling g' mk As.toArray, t, U', L, hT, X', hL, e1, e2, hq, st⟩
  · dsimp only [Pt.U, Pt.locs, Pt.cells, Pt.slots] at X' e1 e2 h1 h2 h3 st hcl
    subst h1; subst h2; subst h3
    exact Or.inr ⟨q, (T.setVm vm₁).calling g' mk As.toArray, t, U', L, E, ce, hT, X', hL, e1, e2, hq, hce, hcv, vx_cls hW₁ hcl, st⟩
end Runs
section Rows
variable {p : Program} {l : Launch} {e : Env} {R : Room} {s : State} {m : MethodId} {args : Array Value} {below : List Frame} {meth : Method} {c : Code} {H : Heap} {locs : List Loc} {cells slots : Nat} {Q : State → Prop}
variable {mc ms : Nat} {free : Addr → Prop} {A0 A1 : Nat → Prop} {H0 : Heap} {a : Array Value} {pc : Nat} {ls : Array Slot} {st0 rest : List Value}
theorem vx_keep {st₀ t T' : State} {L : List Loc} (h0 : st₀.heap = H) (e1 : T'.heap = t.heap) (hS : va_S A0 H0 H locs) (hA : ∀ q, q < H.size → A1 q → A0 q) (hf : ∀ q, free q → A0 q) (hL : ∀ q ∈ L, free q.base) (hF : va_F A1 st₀ t) :
    H.size ≤ T'.heap.size ∧ (∀ q : Nat, q < H.size → ¬ A1 q → T'.heap[q]? = H[q]?) ∧ va_S A0 H0 T'.heap (locs ++ L) := by
  obtain ⟨hz, hk⟩ := hF
  rw [h0] at hz hk
  exact ⟨by rw [e1]; exact hz, fun q h1 h2 => by rw [e1]; exact hk q h1 h2,
    ⟨Nat.le_trans hS.1 (by rw [e1]; exact hz), fun q h1 h2 => by rw [e1, hk q (Nat.lt_of_lt_of_le h1 hS.1) (fun z => h2 (hA q (Nat.lt_of_lt_of_le h1 hS.1) z))]; exact hS.2.1 q h1 h2, fun q hq => by
      rcases List.mem_append.mp hq with h | h
      · exact hS.2.2 q h
      · exact hf _ (hL q h)⟩⟩
theorem vx_calli {S SX : Type} {post : Int32 → S → Prop} {px : SX → Prop} {B : S → State → Prop} {BX : String → SX → State → Prop} {AX : Nat → Prop} (hr : vx_Run p l e R s m args below meth c H locs cells slots mc ms (F0 m pc ls st0) rest (va_Qi post B A1 a) (vx_X px BX AX) free) (hS : va_S A0 H0 H locs) (hA : ∀ q, q < H.size → A1 q → A0 q) (hf : ∀ q, free q → A0 q) (hAX : ∀ q, q < H.size → AX q → A0 q)
    (kx : ∀ (E : String) (ce : Cell) (q9 : Addr) (u : SX) (t : State) (H1 : Heap) (locs1 : List Loc), t.heap = H1 → s.vm.Alike t.vm → px u → BX E u t → H.size ≤ H1.size → (∀ q : Nat, q < H.size → ¬ AX q → H1[q]? = H[q]?) → va_S A0 H0 H1 locs1 → H1[q9]? = some ce → ce.vm = .none → s.vm.findClass E = some ce.cls → vx_W p l e R s m args below meth c H1 locs1 (cells + mc) (slots + ms) Q (F0 m pc ls rest) q9)
    (kk : ∀ (r : Int32) (u : S) (t : State) (H1 : Heap) (locs1 : List Loc), t.heap = H1 → s.vm.Alike t.vm → post r u → B u t → H.size ≤ H1.size → (∀ q : Nat, q < H.size → ¬ A1 q → H1[q]? = H[q]?) → va_S A0 H0 H1 locs1 → W p l e R s m args below meth c H1 locs1 (cells + mc) (slots + ms) Q (F0 m (pc + 3) ls (.int r :: rest))) : W p l e R s m args below meth c H locs cells slots Q (F0 m pc ls st0) := by
  intro T hT X
  rcases hr T hT X with ⟨v, st₀, t, T', L, h0, X', hL, e1, e2, ⟨⟨r, u, hv, hp, hb⟩, hF⟩, st⟩ | ⟨q, st₀, t, T', L, E, ce, h0, X', hL, e1, e2, ⟨u, hp, hb, hF⟩, hce, hcv, hcl, st⟩
  · cases hv
    obtain ⟨k1, k2, k3⟩ := vx_keep h0 e1 hS hA hf hL hF
    obtain ⟨t2, a1, b1⟩ := kk r u t T'.heap (locs ++ L) e1.symm (by rw [← e2]; exact X'.warmed.alike) hp hb k1 k2 k3 T' rfl X'
    exact ⟨t2, st t2 a1, b1⟩
  · obtain ⟨k1, k2, k3⟩ := vx_keep h0 e1 hS hAX hf hL hF
    obtain ⟨t2, a1, b1⟩ := kx E ce q u t T'.heap (locs ++ L) e1.symm (by rw [← e2]; exact X'.warmed.alike) hp hb k1 k2 k3 (by rw [e1]; exact hce) hcv hcl T' rfl X'
    exact ⟨t2, st.trans a1, b1⟩
theorem vx_calll {S SX : Type} {post : Int64 → S → Prop} {px : SX → Prop} {B : S → State → Prop} {BX : String → SX → State → Prop} {AX : Nat → Prop} (hr : vx_Run p l e R s m args below meth c H locs cells slots mc ms (F0 m pc ls st0) rest (va_Ql post B A1 a) (vx_X px BX AX) free) (hS : va_S A0 H0 H locs) (hA : ∀ q, q < H.size → A1 q → A0 q) (hf : ∀ q, free q → A0 q) (hAX : ∀ q, q < H.size → AX q → A0 q)
    (kx : ∀ (E : String) (ce : Cell) (q9 : Addr) (u : SX) (t : State) (H1 : Heap) (locs1 : List Loc), t.heap = H1 → s.vm.Alike t.vm → px u → BX E u t → H.size ≤ H1.size → (∀ q : Nat, q < H.size → ¬ AX q → H1[q]? = H[q]?) → va_S A0 H0 H1 locs1 → H1[q9]? = some ce → ce.vm = .none → s.vm.findClass E = some ce.cls → vx_W p l e R s m args below meth c H1 locs1 (cells + mc) (slots + ms) Q (F0 m pc ls rest) q9)
    (kk : ∀ (r : Int64) (u : S) (t : State) (H1 : Heap) (locs1 : List Loc), t.heap = H1 → s.vm.Alike t.vm → post r u → B u t → H.size ≤ H1.size → (∀ q : Nat, q < H.size → ¬ A1 q → H1[q]? = H[q]?) → va_S A0 H0 H1 locs1 → W p l e R s m args below meth c H1 locs1 (cells + mc) (slots + ms) Q (F0 m (pc + 3) ls (.long r :: rest))) : W p l e R s m args below meth c H locs cells slots Q (F0 m pc ls st0) := by
  intro T hT X
  rcases hr T hT X with ⟨v, st₀, t, T', L, h0, X', hL, e1, e2, ⟨⟨r, u, hv, hp, hb⟩, hF⟩, st⟩ | ⟨q, st₀, t, T', L, E, ce, h0, X', hL, e1, e2, ⟨u, hp, hb, hF⟩, hce, hcv, hcl, st⟩
  · cases hv
    obtain ⟨k1, k2, k3⟩ := vx_keep h0 e1 hS hA hf hL hF
    obtain ⟨t2, a1, b1⟩ := kk r u t T'.heap (locs ++ L) e1.symm (by rw [← e2]; exact X'.warmed.alike) hp hb k1 k2 k3 T' rfl X'
    exact ⟨t2, st t2 a1, b1⟩
  · obtain ⟨k1, k2, k3⟩ := vx_keep h0 e1 hS hAX hf hL hF
    obtain ⟨t2, a1, b1⟩ := kx E ce q u t T'.heap (locs ++ L) e1.symm (by rw [← e2]; exact X'.warmed.alike) hp hb k1 k2 k3 (by rw [e1]; exact hce) hcv hcl T' rfl X'
    exact ⟨t2, st.trans a1, b1⟩
theorem vx_callf {S SX : Type} {post : UInt32 → S → Prop} {px : SX → Prop} {B : S → State → Prop} {BX : String → SX → State → Prop} {AX : Nat → Prop} (hr : vx_Run p l e R s m args below meth c H locs cells slots mc ms (F0 m pc ls st0) rest (va_Qf post B A1 a) (vx_X px BX AX) free) (hS : va_S A0 H0 H locs) (hA : ∀ q, q < H.size → A1 q → A0 q) (hf : ∀ q, free q → A0 q) (hAX : ∀ q, q < H.size → AX q → A0 q)
    (kx : ∀ (E : String) (ce : Cell) (q9 : Addr) (u : SX) (t : State) (H1 : Heap) (locs1 : List Loc), t.heap = H1 → s.vm.Alike t.vm → px u → BX E u t → H.size ≤ H1.size → (∀ q : Nat, q < H.size → ¬ AX q → H1[q]? = H[q]?) → va_S A0 H0 H1 locs1 → H1[q9]? = some ce → ce.vm = .none → s.vm.findClass E = some ce.cls → vx_W p l e R s m args below meth c H1 locs1 (cells + mc) (slots + ms) Q (F0 m pc ls rest) q9)
    (kk : ∀ (r : UInt32) (u : S) (t : State) (H1 : Heap) (locs1 : List Loc), t.heap = H1 → s.vm.Alike t.vm → post r u → B u t → H.size ≤ H1.size → (∀ q : Nat, q < H.size → ¬ A1 q → H1[q]? = H[q]?) → va_S A0 H0 H1 locs1 → W p l e R s m args below meth c H1 locs1 (cells + mc) (slots + ms) Q (F0 m (pc + 3) ls (.float r :: rest))) : W p l e R s m args below meth c H locs cells slots Q (F0 m pc ls st0) := by
  intro T hT X
  rcases hr T hT X with ⟨v, st₀, t, T', L, h0, X', hL, e1, e2, ⟨⟨r, u, hv, hp, hb⟩, hF⟩, st⟩ | ⟨q, st₀, t, T', L, E, ce, h0, X', hL, e1, e2, ⟨u, hp, hb, hF⟩, hce, hcv, hcl, st⟩
  · cases hv
    obtain ⟨k1, k2, k3⟩ := vx_keep h0 e1 hS hA hf hL hF
    obtain ⟨t2, a1, b1⟩ := kk r u t T'.heap (locs ++ L) e1.symm (by rw [← e2]; exact X'.warmed.alike) hp hb k1 k2 k3 T' rfl X'
    exact ⟨t2, st t2 a1, b1⟩
  · obtain ⟨k1, k2, k3⟩ := vx_keep h0 e1 hS hAX hf hL hF
    obtain ⟨t2, a1, b1⟩ := kx E ce q u t T'.heap (locs ++ L) e1.symm (by rw [← e2]; exact X'.warmed.alike) hp hb k1 k2 k3 (by rw [e1]; exact hce) hcv hcl T' rfl X'
    exact ⟨t2, st.trans a1, b1⟩
theorem vx_calld {S SX : Type} {post : UInt64 → S → Prop} {px : SX → Prop} {B : S → State → Prop} {BX : String → SX → State → Prop} {AX : Nat → Prop} (hr : vx_Run p l e R s m args below meth c H locs cells slots mc ms (F0 m pc ls st0) rest (va_Qd post B A1 a) (vx_X px BX AX) free) (hS : va_S A0 H0 H locs) (hA : ∀ q, q < H.size → A1 q → A0 q) (hf : ∀ q, free q → A0 q) (hAX : ∀ q, q < H.size → AX q → A0 q)
    (kx : ∀ (E : String) (ce : Cell) (q9 : Addr) (u : SX) (t : State) (H1 : Heap) (locs1 : List Loc), t.heap = H1 → s.vm.Alike t.vm → px u → BX E u t → H.size ≤ H1.size → (∀ q : Nat, q < H.size → ¬ AX q → H1[q]? = H[q]?) → va_S A0 H0 H1 locs1 → H1[q9]? = some ce → ce.vm = .none → s.vm.findClass E = some ce.cls → vx_W p l e R s m args below meth c H1 locs1 (cells + mc) (slots + ms) Q (F0 m pc ls rest) q9)
    (kk : ∀ (r : UInt64) (u : S) (t : State) (H1 : Heap) (locs1 : List Loc), t.heap = H1 → s.vm.Alike t.vm → post r u → B u t → H.size ≤ H1.size → (∀ q : Nat, q < H.size → ¬ A1 q → H1[q]? = H[q]?) → va_S A0 H0 H1 locs1 → W p l e R s m args below meth c H1 locs1 (cells + mc) (slots + ms) Q (F0 m (pc + 3) ls (.double r :: rest))) : W p l e R s m args below meth c H locs cells slots Q (F0 m pc ls st0) := by
  intro T hT X
  rcases hr T hT X with ⟨v, st₀, t, T', L, h0, X', hL, e1, e2, ⟨⟨r, u, hv, hp, hb⟩, hF⟩, st⟩ | ⟨q, st₀, t, T', L, E, ce, h0, X', hL, e1, e2, ⟨u, hp, hb, hF⟩, hce, hcv, hcl, st⟩
  · cases hv
    obtain ⟨k1, k2, k3⟩ := vx_keep h0 e1 hS hA hf hL hF
    obtain ⟨t2, a1, b1⟩ := kk r u t T'.heap (locs ++ L) e1.symm (by rw [← e2]; exact X'.warmed.alike) hp hb k1 k2 k3 T' rfl X'
    exact ⟨t2, st t2 a1, b1⟩
  · obtain ⟨k1, k2, k3⟩ := vx_keep h0 e1 hS hAX hf hL hF
    obtain ⟨t2, a1, b1⟩ := kx E ce q u t T'.heap (locs ++ L) e1.symm (by rw [← e2]; exact X'.warmed.alike) hp hb k1 k2 k3 (by rw [e1]; exact hce) hcv hcl T' rfl X'
    exact ⟨t2, st.trans a1, b1⟩
theorem vx_callv {S SX : Type} {post : S → Prop} {px : SX → Prop} {B : S → State → Prop} {BX : String → SX → State → Prop} {AX : Nat → Prop} (hr : vx_Run p l e R s m args below meth c H locs cells slots mc ms (F0 m pc ls st0) rest (va_Qv post B A1 a) (vx_X px BX AX) free) (hS : va_S A0 H0 H locs) (hA : ∀ q, q < H.size → A1 q → A0 q) (hf : ∀ q, free q → A0 q) (hAX : ∀ q, q < H.size → AX q → A0 q)
    (kx : ∀ (E : String) (ce : Cell) (q9 : Addr) (u : SX) (t : State) (H1 : Heap) (locs1 : List Loc), t.heap = H1 → s.vm.Alike t.vm → px u → BX E u t → H.size ≤ H1.size → (∀ q : Nat, q < H.size → ¬ AX q → H1[q]? = H[q]?) → va_S A0 H0 H1 locs1 → H1[q9]? = some ce → ce.vm = .none → s.vm.findClass E = some ce.cls → vx_W p l e R s m args below meth c H1 locs1 (cells + mc) (slots + ms) Q (F0 m pc ls rest) q9)
    (kk : ∀ (u : S) (t : State) (H1 : Heap) (locs1 : List Loc), t.heap = H1 → s.vm.Alike t.vm → post u → B u t → H.size ≤ H1.size → (∀ q : Nat, q < H.size → ¬ A1 q → H1[q]? = H[q]?) → va_S A0 H0 H1 locs1 → W p l e R s m args below meth c H1 locs1 (cells + mc) (slots + ms) Q (F0 m (pc + 3) ls (rest))) : W p l e R s m args below meth c H locs cells slots Q (F0 m pc ls st0) := by
  intro T hT X
  rcases hr T hT X with ⟨v, st₀, t, T', L, h0, X', hL, e1, e2, ⟨⟨u, hv, hp, hb⟩, hF⟩, st⟩ | ⟨q, st₀, t, T', L, E, ce, h0, X', hL, e1, e2, ⟨u, hp, hb, hF⟩, hce, hcv, hcl, st⟩
  · cases hv
    obtain ⟨k1, k2, k3⟩ := vx_keep h0 e1 hS hA hf hL hF
    obtain ⟨t2, a1, b1⟩ := kk u t T'.heap (locs ++ L) e1.symm (by rw [← e2]; exact X'.warmed.alike) hp hb k1 k2 k3 T' rfl X'
    exact ⟨t2, st t2 a1, b1⟩
  · obtain ⟨k1, k2, k3⟩ := vx_keep h0 e1 hS hAX hf hL hF
    obtain ⟨t2, a1, b1⟩ := kx E ce q u t T'.heap (locs ++ L) e1.symm (by rw [← e2]; exact X'.warmed.alike) hp hb k1 k2 k3 (by rw [e1]; exact hce) hcv hcl T' rfl X'
    exact ⟨t2, st.trans a1, b1⟩
/-- caught by the row x of this method's table; the rows ahead don't take it -/
theorem vx_catch {own name : String} {E : String} {ce : Cell} {q : Addr} (hown : s.vm.findClass own = some m.cls) (pre : List ExceptionTableEntry) (x : ExceptionTableEntry) (suf : List ExceptionTableEntry) (hsplit : c.exceptionTable.toList = pre ++ x :: suf)
    (hpass : ∀ z ∈ pre, covers z pc = false ∨ (z.catchType ≠ 0 ∧ ∃ nm : String, (Cond.classLink own z.catchType nm).before args s = true ∧ va_Nc E nm s)) (hx : covers x pc = true) (h0 : x.catchType ≠ 0)
    (hlink : (Cond.classLink own x.catchType name).before args s = true) (hcast : (Cond.castable E name).before args s = true) (hcell : H[q]? = some ce) (hv : ce.vm = .none) (hcl : s.vm.findClass E = some ce.cls)
    (kk : W p l e R s m args below meth c H locs cells slots Q (F0 m x.handlerPc ls [.ref q])) : vx_W p l e R s m args below meth c H locs cells slots Q (F0 m pc ls rest) q := by
  intro T hT X
  have hpl : e.platform.magicAccessors = ({} : Platform).magicAccessors := by rw [X.admits.platform]
  obtain ⟨c3, c4, hc3, hc4, hasg⟩ := Cond.castable_spec hcast
  cases Option.some.inj (hc3.symm.trans hcl)
  obtain ⟨c5, hc5, hcl5⟩ := Cond.classLink_spec hown hlink e.platform hpl
  cases Option.some.inj (hc4.symm.trans hc5)
  obtain ⟨vm', X', st⟩ := X.thenCaughtThrough q (g := F0 m pc ls rest) rfl (Steps.refl _) (by rw [hT]; exact hcell) (by rw [hv]; rfl) (by obtain ⟨k9, h9, -⟩ := Vm.findClass_spec hcl; exact ⟨k9, h9⟩) pre x suf hsplit
    (fun z hz => by
      rcases hpass z hz with h | ⟨hz0, nm, hl1, hn1⟩
      · exact Or.inl h
      · obtain ⟨c6, hc6, hcl6⟩ := Cond.classLink_spec hown hl1 e.platform hpl
        obtain ⟨a8, b8, h1, h2, h3⟩ := hn1
        cases Option.some.inj (h1.symm.trans hcl)
        cases Option.some.inj (h2.symm.trans hc6)
        exact Or.inr ⟨hz0, _, hcl6, h3⟩) hx (Or.inr ⟨h0, c4, hcl5, hasg⟩)
  obtain ⟨t, a1, b1⟩ := kk (T.setVm vm') hT X'
  exact ⟨t, st.trans a1, b1⟩
end Rows
section Ends
variable {p : Program} {l : Launch} {e : Env} {R : Room} {s : State} {m : MethodId} {args : Array Value} {below : List Frame} {meth : Method} {c : Code} {H : Heap} {locs : List Loc} {cells slots : Nat} {Q : State → Prop}
variable {mc ms : Nat} {free : Addr → Prop} {A0 A1 : Nat → Prop} {H0 : Heap} {a : Array Value} {ls : Array Slot} {st0 rest : List Value}
variable {Qc : Array Value → State → Outcome → State → Prop} {XC : String → State → State → Prop}
/-- what a body that may throw owes at its end -/
def vx_MQ (below : List Frame) (Qc : Array Value → State → Outcome → State → Prop) (XC : String → State → State → Prop) (a : Array Value) (s : State) (mc ms : Nat) (free : Addr → Prop) : State → Prop := fun t =>
  ∃ o, t.status = .running ∧ Ended t below o ∧ vx_Q Qc XC mc ms free a s o t
theorem vx_ret {g : JFrame} {mc ms : Nat} (k : W p l e R s m args below meth c H locs cells slots (MQ below Qc args s mc ms free) g) : W p l e R s m args below meth c H locs cells slots (vx_MQ below Qc XC args s mc ms free) g := by
  intro T hT X
  obtain ⟨t, a1, o, b1, b2, b3, b4⟩ := k T hT X
  exact ⟨t, a1, o, b1, b2, Or.inl ⟨b3, b4⟩⟩
/-- not caught here: it goes on to the caller -/
theorem vx_widen {g : JFrame} {q : Addr} {k n : Nat} (h1 : cells ≤ k) (h2 : slots ≤ n) (kk : vx_W p l e R s m args below meth c H locs k n Q g q) : vx_W p l e R s m args below meth c H locs cells slots Q g q := fun T hT X => kk T hT (stand_widen X h1 h2)
theorem vx_out {pc : Nat} {E : String} {ce : Cell} {q : Addr} {mc ms : Nat} (hout : ∀ x ∈ c.exceptionTable.toList, covers x pc = false) (hlocks : meth.locks = false) (hcell : H[q]? = some ce) (hv : ce.vm = .none) (hcl : s.vm.findClass E = some ce.cls)
    (hx : ∀ t : State, t.heap = H → s.vm.Alike t.vm → XC E s t) (hf : ∀ z ∈ locs, free z.base) (hc : cells ≤ mc) (hs : slots ≤ ms) :
    vx_W p l e R s m args below meth c H locs cells slots (vx_MQ below Qc XC args s mc ms free) (F0 m pc ls rest) q := by
  intro T hT X
  obtain ⟨st1, hrun, hend, hW, hsm⟩ := X.leaveThrown q (g := F0 m pc ls rest) rfl rfl rfl hout hlocks
  have hcell9 : (T.setFrames (.throwing q :: below)).heap[q]? = some ce := by
    show T.heap[q]? = some ce
    rw [hT]; exact hcell
  exact ⟨_, st1, .threw q, hrun, hend, Or.inr ⟨q, rfl, E, ce, locs, hx _ hT hW.alike, hcell9, hv, hcl, hW, hsm.mono hc hs, hf⟩⟩
theorem vx_frame {U : State} {k n : Nat} (h : s.sameButNew ({ U with vm := s.vm } : State) locs k n) : s.heap.size ≤ U.heap.size ∧ ∀ q : Nat, q < s.heap.size → (∀ z ∈ locs, z.base ≠ q) → U.heap[q]? = s.heap[q]? := by
  obtain ⟨-, h2, -, -, -, h6⟩ := h
  refine ⟨h2, fun q hq hz => ?_⟩
  obtain ⟨c9, e1, e2, e3, e4⟩ := h6 q _ (Array.getElem?_eq_getElem hq)
  have hs : c9.slots = (s.heap[q]).slots := Array.ext_getElem? fun i => e4 i fun hm => hz _ hm rfl
  have h9 : c9 = s.heap[q] := by
    rw [hs] at e2
    exact e2
  have e5 : U.heap[q]? = some c9 := e1
  rw [e5, h9, Array.getElem?_eq_getElem hq]
/-- the words of a throw but the four that speak of the heap -/
def vx_no (w : Cond) : Bool := decide (w ≠ .isRef (.static Bundle.tN "UNASSIGNED_STACK" Bundle.steD)) && decide (w ≠ .isRef (.static Bundle.tN "SUPPRESSED_SENTINEL" Bundle.listD)) && decide (w ≠ .laysStatic Bundle.tN "UNASSIGNED_STACK" Bundle.steD) && decide (w ≠ .laysStatic Bundle.tN "SUPPRESSED_SENTINEL" Bundle.listD)
def vx_at0 (own : String) (ic : Nat) (X : String) (names : List String) : List Cond := (Bundle.ownAtoms0 own ic X names).filter vx_no
def vx_atS (own : String) (ic : Nat) (X : String) (names : List String) : List Cond := (Bundle.ownAtoms own ic X names).filter vx_no
/-- a word that the tables alone decide, or a good one -/
def vx_ot (w : Cond) : Bool := w.onTables || goodWord w
theorem vx_ot_at {args a' : Array Value} {s U : State} {w : Cond} (hW : s.WarmedH U.vm) (hvm : s.vm = U.vm) (hg : vx_ot w = true) (h : w.before args s = true) : w.before a' U = true := by
  simp only [vx_ot, Bool.or_eq_true] at hg
  rcases hg with hg | hg
  · exact va_tabs hg hvm h
  · exact word_at hW (good_of_word hg) h
/-- a list's words: the good ones out of the method's own list, the others by premises of their own -/
theorem vx_hat {args : Array Value} {s : State} {L B : List Cond} (h1 : ∀ w ∈ L.filter goodWord, w.before args s = true) (h2 : ∀ w ∈ L.filter (fun w => !goodWord w), w ∈ B) (h3 : ∀ w ∈ B, w.before args s = true) : ∀ w ∈ L, w.before args s = true := by
  intro w hw
  by_cases g : goodWord w = true
  · exact h1 w (List.mem_filter.mpr ⟨hw, g⟩)
  · refine h3 w (h2 w (List.mem_filter.mpr ⟨hw, ?_⟩))
    show (!goodWord w) = true
    cases hgw : goodWord w
    · rfl
    · exact absurd hgw g
theorem vx_c {args : Array Value} {s : State} {w : Cond} {B : List Cond} (h : w.before args s = true) (t : ∀ w ∈ B, w.before args s = true) : ∀ w' ∈ w :: B, w'.before args s = true := fun w' h' => (List.mem_cons.mp h').elim (fun e => by rw [e]; exact h) (t w')
theorem vx_n {args : Array Value} {s : State} : ∀ w ∈ ([] : List Cond), w.before args s = true := fun _ h => nomatch h
theorem vx_own {args : Array Value} {s : State} {L : List Cond} (h1 : ∀ w ∈ L.filter vx_no, w.before args s = true)
    (hU : (Cond.isRef (.static Bundle.tN "UNASSIGNED_STACK" Bundle.steD)).before args s = true) (hN : (Cond.isRef (.static Bundle.tN "SUPPRESSED_SENTINEL" Bundle.listD)).before args s = true)
    (lU : (Cond.laysStatic Bundle.tN "UNASSIGNED_STACK" Bundle.steD).before args s = true) (lN : (Cond.laysStatic Bundle.tN "SUPPRESSED_SENTINEL" Bundle.listD).before args s = true) : ∀ w ∈ L, w.before args s = true := by
  intro w hw
  by_cases e1 : w = .isRef (.static Bundle.tN "UNASSIGNED_STACK" Bundle.steD)
  · rw [e1]; exact hU
  · by_cases e2 : w = .isRef (.static Bundle.tN "SUPPRESSED_SENTINEL" Bundle.listD)
    · rw [e2]; exact hN
    · by_cases e3 : w = .laysStatic Bundle.tN "UNASSIGNED_STACK" Bundle.steD
      · rw [e3]; exact lU
      · by_cases e4 : w = .laysStatic Bundle.tN "SUPPRESSED_SENTINEL" Bundle.listD
        · rw [e4]; exact lN
        · exact h1 w (List.mem_filter.mpr ⟨hw, by unfold vx_no; rw [decide_eq_true e1, decide_eq_true e2, decide_eq_true e3, decide_eq_true e4]; rfl⟩)
/-- where a static field lies, its class's statics cell in H -/
def vx_L (C n d : String) (A : Nat → Prop) (U : State) (H : Heap) : Prop := ∃ (c : ClassId) (k : Class) (i : Nat) (f : Field) (a : Nat) (cell : Cell), U.vm.findClass C = some c ∧ U.fieldFound? C n d = some (c, k, i, f) ∧ f.isStatic = true ∧ k.statics = some a ∧ H[a]? = some cell ∧ cell.vm.isStatics = true ∧ cell.cls = c ∧ f.slot < cell.slots.size ∧ k.staticTypes[f.slot]? = some f.type ∧ ¬ A a
theorem vx_L.moved {C n d : String} {A : Nat → Prop} {u U : State} {H : Heap} (hvm : u.vm.Alike U.vm) (h : vx_L C n d A u H) : vx_L C n d A U H := by
  obtain ⟨c, k, i, f, a, cell, h1, h2, h3, h4, h5, h6, h7, h8, h9, h10⟩ := h
  obtain ⟨k', hi', he⟩ := State.fieldFound?_setVm hvm h2
  exact ⟨c, k', i, f, a, cell, by rw [hvm.findClass]; exact h1, hi', h3, by rw [he]; exact h4, h5, h6, h7, h8, by rw [he]; exact h9, h10⟩
theorem vx_L.kept {C n d : String} {A : Nat → Prop} {U : State} {H H1 : Heap} (h : vx_L C n d A U H) (hq : ∀ a : Nat, a < H.size → ¬ A a → H1[a]? = H[a]?) : vx_L C n d A U H1 := by
  obtain ⟨c, k, i, f, a, cell, h1, h2, h3, h4, h5, h6, h7, h8, h9, h10⟩ := h
  exact ⟨c, k, i, f, a, cell, h1, h2, h3, h4, by rw [hq a (Array.getElem?_eq_some_iff.mp h5).1 h10]; exact h5, h6, h7, h8, h9, h10⟩
theorem vx_L.narrow {C n d : String} {A B : Nat → Prop} {U : State} {H : Heap} (h : vx_L C n d A U H) (hAB : ∀ q, B q → A q) : vx_L C n d B U H := by
  obtain ⟨c, k, i, f, a, cell, h1, h2, h3, h4, h5, h6, h7, h8, h9, h10⟩ := h
  exact ⟨c, k, i, f, a, cell, h1, h2, h3, h4, h5, h6, h7, h8, h9, fun z => h10 (hAB _ z)⟩
theorem vx_L.word {C n d : String} {A : Nat → Prop} {s : State} {args : Array Value} (h : vx_L C n d A s s.heap) : (Cond.laysStatic C n d).before args s = true := by
  obtain ⟨c, k, i, f, a, cell, h1, h2, h3, h4, h5, h6, h7, h8, h9, -⟩ := h
  show (Cond.laysStatic C n d).holds args s none s [] = true
  exact Cond.laysStatic_of h1 h2 h3 h4 h5 h6 h7 h8 h9
/-- .. and what it holds: null or some reference -/
def vx_Zq (C n d : String) (A : Nat → Prop) (U : State) (H : Heap) : Prop := va_Zq C n d A U H ∧ vx_L C n d A U H
theorem vx_Zq.moved {C n d : String} {A : Nat → Prop} {u U : State} {H : Heap} (hvm : u.vm.Alike U.vm) (h : vx_Zq C n d A u H) : vx_Zq C n d A U H := ⟨va_Zq.moved hvm h.1, vx_L.moved hvm h.2⟩
theorem vx_Zq.kept {C n d : String} {A : Nat → Prop} {U : State} {H H1 : Heap} (h : vx_Zq C n d A U H) (hq : ∀ a : Nat, a < H.size → ¬ A a → H1[a]? = H[a]?) : vx_Zq C n d A U H1 := ⟨va_Zq.kept h.1 hq, vx_L.kept h.2 hq⟩
theorem vx_Zq.narrow {C n d : String} {A B : Nat → Prop} {U : State} {H : Heap} (h : vx_Zq C n d A U H) (hAB : ∀ q, B q → A q) : vx_Zq C n d B U H := ⟨va_Zq.narrow h.1 hAB, vx_L.narrow h.2 hAB⟩
theorem vx_Zqof {args : Array Value} {s : State} {C n d : String} {A : Nat → Prop} (hl : (Cond.laysStatic C n d).before args s = true) (hini : (Cond.initialized C).before args s = true) (h : (Cond.isRef (.static C n d)).before args s = true) (hA : ∀ a : Nat, a < s.heap.size → ¬ A a) : vx_Zq C n d A s s.heap := by
  refine ⟨va_Zqof hl hini h hA, ?_⟩
  obtain ⟨c, k, i, f, a, cell, h1, h2, h3, h4, h5, h6, h7, h8, h9⟩ := Cond.laysStatic_spec hl
  exact ⟨c, k, i, f, a, cell, h1, h2, h3, h4, h5, h6, h7, h8, h9, hA a (Array.getElem?_eq_some_iff.mp h5).1⟩
theorem vx_isRef {C n d : String} {v : Value} {A : Nat → Prop} {s : State} {args : Array Value} (h : va_Z C n d v A s s.heap) (hv : v.isRef = true) : (Cond.isRef (.static C n d)).before args s = true := by
  obtain ⟨cf, kf, fi, f, a, cell, h1, h2, h3, h4, h5, h6, h7, -⟩ := h
  have he : (Term.static C n d).eval args s none [] s = some v := by
    simp [Term.eval, State.fieldNamed?, h1, h2, h4, h5, h6, h7]
  simp only [Cond.before, Cond.holds, Cond.value, he]
  cases v <;> simp_all [Value.isRef]
theorem vx_isRefq {C n d : String} {A : Nat → Prop} {s : State} {args : Array Value} (h : va_Zq C n d A s s.heap) : (Cond.isRef (.static C n d)).before args s = true := by
  rcases h with h | ⟨t, h⟩
  · exact vx_isRef h rfl
  · exact vx_isRef h rfl
/-- the same frame, seen from here: as if the method were called anew in this heap -/
theorem vx_rebase {T : State} (X : Stand p l e R s m args below meth c T locs cells slots) {R' : Room} (hf : R'.frames ≤ R.frames) (hl : R'.locals ≤ R.locals) (hc : cells + R'.cells ≤ R.cells) (hs : slots + R'.slots ≤ R.slots) :
    Stand p l e R' ((T.setVm s.vm).setFrames (.invoking m args :: below)) m args below meth c T [] 0 0 := by
  have htop : (T.setVm s.vm).topJava?.isSome := X.here.top
  have hF : ((T.setVm s.vm).setFrames (.invoking m args :: below)).frames = .invoking m args :: below := State.frames_setFrames _ (State.cur_lt_of_top htop)
  obtain ⟨g₀, hg0⟩ := Option.isSome_iff_exists.mp htop
  obtain ⟨r, hr⟩ := State.topJava?_eq_some.mp hg0
  have hl9 : e.platform.stackLimits (T.setVm s.vm).me = e.platform.stackLimits s.me := X.limits
  have hb9 : (T.setVm s.vm).me.stackBytes = s.me.stackBytes := X.bytes
  refine ⟨X.admits, X.cas, X.clock, hF, ?_, X.hears, X.method, X.code, X.here, X.tail, X.warmed, ?_, ?_, ?_⟩
  · have h := X.room
    have hU : ((T.setVm s.vm).setFrames (.invoking m args :: below)).localsInUse = s.localsInUse := by
      rw [State.localsInUse_invoking hF (meth := meth) (c := c) X.method X.code, State.localsInUse_invoking X.frames X.method X.code]
    simp only [State.hasRoom, Bool.and_eq_true, decide_eq_true_eq] at h ⊢
    obtain ⟨⟨⟨⟨h1, h2, h3, h4, h5, h6⟩, h7⟩, h8⟩, h9⟩ := h
    rw [X.frames, List.length_cons] at h2 h3
    have q1 := X.heapSize
    have q2 := X.used
    simp only [hF, hU, List.length_cons, State.stackLimits_setFrames, State.stackBytes_setFrames, hl9, hb9]
    refine ⟨⟨⟨⟨by omega, by omega, by omega, by omega, by omega, h6⟩, ?_⟩, ?_⟩, X.book⟩
    · show T.heap.size + R'.cells ≤ e.platform.maxCells
      omega
    · show T.slotsUsed + R'.slots ≤ e.platform.maxSlots
      omega
  · rw [State.stackLimits_setFrames]; rfl
  · rw [State.stackBytes_setFrames]; rfl
  · refine ⟨?_, Nat.le_refl _, Nat.le_refl _, ?_, ?_, fun a c9 h9 => ⟨c9, h9, rfl, rfl, fun _ _ => rfl⟩⟩
    · obtain ⟨t, ht, -⟩ := State.frames_cons hr
      show T.setVm s.vm = { ((T.setVm s.vm).setFrames (.invoking m args :: below)).setFrames (T.setVm s.vm).frames with heap := T.heap, slotsUsed := T.slotsUsed }
      rw [State.setFrames_setFrames, State.setFrames_self ht]
      rfl
    · show T.slotsUsed = T.slotsUsed + ((T.heap.toList.drop T.heap.size).map (·.slots.size)).sum
      rw [List.drop_eq_nil_of_le (Nat.le_of_eq Array.length_toList)]
      rfl
    · show ((T.heap.toList.drop T.heap.size).map (·.slots.size)).sum ≤ 0
      rw [List.drop_eq_nil_of_le (Nat.le_of_eq Array.length_toList)]
      exact Nat.le_refl _
/-- 'throw new E()': new; dup; invokespecial; athrow -/
theorem vx_throw0 {cc : ByteArray} {pc : Nat} (hexec : p.tables.exec = Jvm.exec) (hb : c.code = cc) (hl : l.stackTraces = false) {own cls : String} {names : List String} {ik ic mc ms : Nat} {A : Nat → Prop}
    (hown : s.vm.findClass own = some m.cls) (hcls : Bundle.fit cls = true) (hnames : ∀ n ∈ names, Bundle.fit n = true)
    (hk : (Cond.classLink own ik cls).before args s = true) (hini : (Cond.initialized cls).before args s = true) (hat : ∀ w ∈ vx_at0 own ic cls names, w.before args s = true)
    (hgood : ∀ w ∈ Cond.classLink own ik cls :: Cond.initialized cls :: vx_at0 own ic cls names, vx_ot w = true)
    (hU : vx_Zq Bundle.tN "UNASSIGNED_STACK" Bundle.steD A s s.heap) (hN : vx_Zq Bundle.tN "SUPPRESSED_SENTINEL" Bundle.listD A s s.heap) (hS : va_S A s.heap H locs) (hsize : ls.size = c.maxLocals)
    (d0 : decode cc pc = .ok (.new ik, 3)) (d3 : decode cc (pc + 3) = .ok (.dup, 1)) (d4 : decode cc (pc + 4) = .ok (.invokespecial ic, 3)) (d7 : decode cc (pc + 7) = .ok (.athrow, 1))
    (hout : ∀ x ∈ c.exceptionTable.toList, covers x (pc + 7) = false)
    (hRframes : names.length + 3 < R.frames) (hRlocals : (rest.map fun v => v.category).sum + (13 * (names.length + 1) + 42) ≤ R.locals) (hRcells : cells + 1 ≤ R.cells) (hRslots : slots + 6 ≤ R.slots) (hlocks : meth.locks = false)
    (hx : ∀ t : State, s.vm.Alike t.vm → H.size ≤ t.heap.size → (∀ q : Nat, q < H.size → t.heap[q]? = H[q]?) → XC cls s t)
    (hf : ∀ z ∈ locs, free z.base) (hc : cells + 1 ≤ mc) (hs : slots + 6 ≤ ms) :
    W p l e R s m args below meth c H locs cells slots (vx_MQ below Qc XC args s mc ms free) (F0 m pc ls rest) := by
  intro T hT X
  have htr : e.platform.stackTraces = false := (show e.platform.stackTraces = l.stackTraces by rw [X.admits.platform]).trans hl
  have Y := vx_rebase X (R' := { frames := R.frames, locals := R.locals, cells := 1, slots := 6 }) (Nat.le_refl _) (Nat.le_refl _) hRcells hRslots
  obtain ⟨s', hA⟩ : ∃ z, z = (T.setVm s.vm).setFrames (.invoking m args :: below) := ⟨_, rfl⟩
  rw [← hA] at Y
  have hvm : s'.vm = s.vm := by rw [hA]; rfl
  have hhp : s'.heap = H := by rw [hA]; exact hT
  have hW0 : s.WarmedH s'.vm := by rw [hvm]; exact State.WarmedH.refl s
  have hat' : ∀ w ∈ vx_at0 own ic cls names, w.before args s' = true := fun w hw => vx_ot_at hW0 hvm.symm (hgood w (List.mem_cons_of_mem _ (List.mem_cons_of_mem _ hw))) (hat w hw)
  have hk' : (Cond.classLink own ik cls).before args s' = true := vx_ot_at hW0 hvm.symm (hgood _ List.mem_cons_self) hk
  have hini' : (Cond.initialized cls).before args s' = true := vx_ot_at hW0 hvm.symm (hgood _ (List.mem_cons_of_mem _ List.mem_cons_self)) hini
  have hU' : vx_Zq Bundle.tN "UNASSIGNED_STACK" Bundle.steD A s' s'.heap := by rw [hhp]; exact vx_Zq.moved hW0.alike (hU.kept hS.2.1)
  have hN' : vx_Zq Bundle.tN "SUPPRESSED_SENTINEL" Bundle.listD A s' s'.heap := by rw [hhp]; exact vx_Zq.moved hW0.alike (hN.kept hS.2.1)
  have h : ∀ w ∈ Bundle.ownAtoms0 own ic cls names, w.before args s' = true := vx_own hat' (vx_isRefq hU'.1) (vx_isRefq hN'.1) hU'.2.word hN'.2.word
  have hown' : s'.vm.findClass own = some m.cls := by rw [hvm]; exact hown
  have hins : (Cond.instantiable cls 6).before args s' = true := h _ (by simp [Bundle.ownAtoms0])
  obtain ⟨vm₁, cX, kX, hfX, hkX, -, -, X₁, st1⟩ := Y.newCold hexec (own := own) (C := cls) (index := ik) (n := 6) hown' hk' hins hini'
    (g := F0 m pc ls rest) rfl (by rw [hb]; exact d0) (Nat.le_refl _) (Nat.le_refl _)
  generalize hT1 : (T.setVm vm₁).pushCell { cls := cX, slots := kX.instanceTypes.map defaultValue, vm := .none } = T1 at X₁ st1
  have hcat : (Value.ref T.heap.size).category = 1 := rfl
  have hcellA : T1.heap[T.heap.size]? = some (freshCell cX kX) := by rw [← hT1]; exact State.heap_pushCell_size _ _
  have d3' : decode c.code (pc + 3) = .ok (.dup, 1) := by rw [hb]; exact d3
  obtain ⟨U, hsteps, hrun, hend, hW, hsame, ce, hce, hO⟩ := X₁.ctorThrow0 hexec htr (own := own) (cls := cls) (names := names) (ic := ic) hown' hcls hnames h (fun x hx => nomatch hx) hfX hkX hcellA (by rw [hhp, hT]; exact Nat.le_refl _)
    (g := { method := m, pc := pc + 4, locals := ls, stack := .ref T.heap.size :: .ref T.heap.size :: rest, locked := none }) rfl hsize rfl rfl (rest := rest) rfl
    (by rw [hb]; exact d4) (by rw [hb]; exact d7) hout hRframes (by simp only [List.map_cons, List.sum_cons, hcat]; omega) hlocks
  obtain ⟨f1, f2⟩ := vx_frame hsame
  rw [hhp] at f1 f2
  have hWs : s.WarmedH U.vm := State.WarmedH.trans hW0 hW
  have hcl : s.vm.findClass cls = some ce.cls := by
    have h9 := hO.cls
    rw [hvm] at h9
    exact h9
  have hall : s.sameButNew ({ U with vm := s.vm } : State) locs mc ms := by
    subst hA
    obtain ⟨e1, e2⟩ := hsame
    rw [State.setFrames_setFrames] at e1
    have h2 : (T.setVm s.vm).sameButNew ({ U with vm := s.vm } : State) [] (0 + 1) (0 + 6) := ⟨e1, e2⟩
    have h3 := X.same.trans h2
    rw [List.append_nil] at h3
    exact h3.mono hc hs
  refine ⟨U, ?_, .threw T.heap.size, hrun, hend, Or.inr ⟨T.heap.size, rfl, cls, ce, locs, hx U hWs.alike f1 (fun q hq => f2 q hq (fun z hz => nomatch hz)), hce, hO.vm, hcl, hWs, hall, hf⟩⟩
  refine st1 _ ?_
  show Steps p.tables e below (T1.setTop { method := m, pc := pc + 3, locals := ls, stack := .ref T.heap.size :: rest, locked := none }) _
  jvm_step X₁.here [X₁.here.top, hexec, d3', Value.category]
  exact hsteps
/-- 'throw new E("text")': new; dup; ldc; invokespecial; athrow -/
theorem vx_throwS {cc : ByteArray} {pc : Nat} (hexec : p.tables.exec = Jvm.exec) (hb : c.code = cc) (hl : l.stackTraces = false) {own cls text : String} {names : List String} {ik is ic mc ms sa : Nat} {A : Nat → Prop}
    (hown : s.vm.findClass own = some m.cls) (hcls : Bundle.fit cls = true) (hnames : ∀ n ∈ names, Bundle.fit n = true)
    (hk : (Cond.classLink own ik cls).before args s = true) (hini : (Cond.initialized cls).before args s = true) (hstr : vk_R own is text sa s) (hat : ∀ w ∈ vx_atS own ic cls names, w.before args s = true)
    (hgood : ∀ w ∈ Cond.classLink own ik cls :: Cond.initialized cls :: vx_atS own ic cls names, vx_ot w = true)
    (hU : vx_Zq Bundle.tN "UNASSIGNED_STACK" Bundle.steD A s s.heap) (hN : vx_Zq Bundle.tN "SUPPRESSED_SENTINEL" Bundle.listD A s s.heap) (hS : va_S A s.heap H locs) (hsize : ls.size = c.maxLocals)
    (d0 : decode cc pc = .ok (.new ik, 3)) (d3 : decode cc (pc + 3) = .ok (.dup, 1)) (d4 : decode cc (pc + 4) = .ok (.ldc is, 2)) (d6 : decode cc (pc + 6) = .ok (.invokespecial ic, 3)) (d9 : decode cc (pc + 9) = .ok (.athrow, 1))
    (hout : ∀ x ∈ c.exceptionTable.toList, covers x (pc + 9) = false)
    (hRframes : names.length + 3 < R.frames) (hRlocals : (rest.map fun v => v.category).sum + (13 * (names.length + 1) + 43) ≤ R.locals) (hRcells : cells + 1 ≤ R.cells) (hRslots : slots + 6 ≤ R.slots) (hlocks : meth.locks = false)
    (hx : ∀ t : State, s.vm.Alike t.vm → H.size ≤ t.heap.size → (∀ q : Nat, q < H.size → t.heap[q]? = H[q]?) → XC cls s t)
    (hf : ∀ z ∈ locs, free z.base) (hc : cells + 1 ≤ mc) (hs : slots + 6 ≤ ms) :
    W p l e R s m args below meth c H locs cells slots (vx_MQ below Qc XC args s mc ms free) (F0 m pc ls rest) := by
  intro T hT X
  have htr : e.platform.stackTraces = false := (show e.platform.stackTraces = l.stackTraces by rw [X.admits.platform]).trans hl
  have Y := vx_rebase X (R' := { frames := R.frames, locals := R.locals, cells := 1, slots := 6 }) (Nat.le_refl _) (Nat.le_refl _) hRcells hRslots
  obtain ⟨s', hA⟩ : ∃ z, z = (T.setVm s.vm).setFrames (.invoking m args :: below) := ⟨_, rfl⟩
  rw [← hA] at Y
  have hvm : s'.vm = s.vm := by rw [hA]; rfl
  have hhp : s'.heap = H := by rw [hA]; exact hT
  have hW0 : s.WarmedH s'.vm := by rw [hvm]; exact State.WarmedH.refl s
  have hat' : ∀ w ∈ vx_atS own ic cls names, w.before args s' = true := fun w hw => vx_ot_at hW0 hvm.symm (hgood w (List.mem_cons_of_mem _ (List.mem_cons_of_mem _ hw))) (hat w hw)
  have hk' : (Cond.classLink own ik cls).before args s' = true := vx_ot_at hW0 hvm.symm (hgood _ List.mem_cons_self) hk
  have hini' : (Cond.initialized cls).before args s' = true := vx_ot_at hW0 hvm.symm (hgood _ (List.mem_cons_of_mem _ List.mem_cons_self)) hini
  have hU' : vx_Zq Bundle.tN "UNASSIGNED_STACK" Bundle.steD A s' s'.heap := by rw [hhp]; exact vx_Zq.moved hW0.alike (hU.kept hS.2.1)
  have hN' : vx_Zq Bundle.tN "SUPPRESSED_SENTINEL" Bundle.listD A s' s'.heap := by rw [hhp]; exact vx_Zq.moved hW0.alike (hN.kept hS.2.1)
  have h : ∀ w ∈ Bundle.ownAtoms own ic cls names, w.before args s' = true := vx_own hat' (vx_isRefq hU'.1) (vx_isRefq hN'.1) hU'.2.word hN'.2.word
  have hown' : s'.vm.findClass own = some m.cls := by rw [hvm]; exact hown
  have hins : (Cond.instantiable cls 6).before args s' = true := h _ (by simp [Bundle.ownAtoms])
  obtain ⟨vm₁, cX, kX, hfX, hkX, -, -, X₁, st1⟩ := Y.newCold hexec (own := own) (C := cls) (index := ik) (n := 6) hown' hk' hins hini'
    (g := F0 m pc ls rest) rfl (by rw [hb]; exact d0) (Nat.le_refl _) (Nat.le_refl _)
  generalize hT1 : (T.setVm vm₁).pushCell { cls := cX, slots := kX.instanceTypes.map defaultValue, vm := .none } = T1 at X₁ st1
  have hcat : (Value.ref T.heap.size).category = 1 := rfl
  have hcellA : T1.heap[T.heap.size]? = some (freshCell cX kX) := by rw [← hT1]; exact State.heap_pushCell_size _ _
  have d3' : decode c.code (pc + 3) = .ok (.dup, 1) := by rw [hb]; exact d3
  have d4' : decode c.code (pc + 4) = .ok (.ldc is, 2) := by rw [hb]; exact d4
  have hstr' : vk_R own is text sa s' := vk_R.warm hW0 hstr
  obtain ⟨U, hsteps, hrun, hend, hW, hsame, ce, hce, hO⟩ := X₁.ctorThrowS hexec htr (own := own) (cls := cls) (names := names) (ic := ic) hown' hcls hnames h (fun x hx => nomatch hx) hfX hkX hcellA (by rw [hhp, hT]; exact Nat.le_refl _) (msg := .ref sa) rfl
    (g := { method := m, pc := pc + 6, locals := ls, stack := .ref sa :: .ref T.heap.size :: .ref T.heap.size :: rest, locked := none }) rfl hsize rfl rfl (rest := rest) rfl
    (by rw [hb]; exact d6) (by rw [hb]; exact d9) hout hRframes (by simp only [List.map_cons, List.sum_cons, hcat]; omega) hlocks
  obtain ⟨f1, f2⟩ := vx_frame hsame
  rw [hhp] at f1 f2
  have hWs : s.WarmedH U.vm := State.WarmedH.trans hW0 hW
  have hcl : s.vm.findClass cls = some ce.cls := by
    have h9 := hO.cls
    rw [hvm] at h9
    exact h9
  have hall : s.sameButNew ({ U with vm := s.vm } : State) locs mc ms := by
    subst hA
    obtain ⟨e1, e2⟩ := hsame
    rw [State.setFrames_setFrames] at e1
    have h2 : (T.setVm s.vm).sameButNew ({ U with vm := s.vm } : State) [] (0 + 1) (0 + 6) := ⟨e1, e2⟩
    have h3 := X.same.trans h2
    rw [List.append_nil] at h3
    exact h3.mono hc hs
  refine ⟨U, ?_, .threw T.heap.size, hrun, hend, Or.inr ⟨T.heap.size, rfl, cls, ce, locs, hx U hWs.alike f1 (fun q hq => f2 q hq (fun z hz => nomatch hz)), hce, hO.vm, hcl, hWs, hall, hf⟩⟩
  refine st1 _ ?_
  show Steps p.tables e below (T1.setTop { method := m, pc := pc + 3, locals := ls, stack := .ref T.heap.size :: rest, locked := none }) _
  jvm_step X₁.here [X₁.here.top, hexec, d3', Value.category]
  exact X₁.ldcString hexec (own := own) (text := text) (index := is) (a := sa) hown' hstr'.1 hstr'.2
    (g := { method := m, pc := pc + 4, locals := ls, stack := .ref T.heap.size :: .ref T.heap.size :: rest, locked := none }) rfl d4' _ hsteps
/-- 'throw new E("text")', the text by a wide index -/
theorem vx_throwSW {cc : ByteArray} {pc : Nat} (hexec : p.tables.exec = Jvm.exec) (hb : c.code = cc) (hl : l.stackTraces = false) {own cls text : String} {names : List String} {ik is ic mc ms sa : Nat} {A : Nat → Prop}
    (hown : s.vm.findClass own = some m.cls) (hcls : Bundle.fit cls = true) (hnames : ∀ n ∈ names, Bundle.fit n = true)
    (hk : (Cond.classLink own ik cls).before args s = true) (hini : (Cond.initialized cls).before args s = true) (hstr : vk_R own is text sa s) (hat : ∀ w ∈ vx_atS own ic cls names, w.before args s = true)
    (hgood : ∀ w ∈ Cond.classLink own ik cls :: Cond.initialized cls :: vx_atS own ic cls names, vx_ot w = true)
    (hU : vx_Zq Bundle.tN "UNASSIGNED_STACK" Bundle.steD A s s.heap) (hN : vx_Zq Bundle.tN "SUPPRESSED_SENTINEL" Bundle.listD A s s.heap) (hS : va_S A s.heap H locs) (hsize : ls.size = c.maxLocals)
    (d0 : decode cc pc = .ok (.new ik, 3)) (d3 : decode cc (pc + 3) = .ok (.dup, 1)) (d4 : decode cc (pc + 4) = .ok (.ldc_w is, 3)) (d7 : decode cc (pc + 7) = .ok (.invokespecial ic, 3)) (d10 : decode cc (pc + 10) = .ok (.athrow, 1))
    (hout : ∀ x ∈ c.exceptionTable.toList, covers x (pc + 10) = false)
    (hRframes : names.length + 3 < R.frames) (hRlocals : (rest.map fun v => v.category).sum + (13 * (names.length + 1) + 43) ≤ R.locals) (hRcells : cells + 1 ≤ R.cells) (hRslots : slots + 6 ≤ R.slots) (hlocks : meth.locks = false)
    (hx : ∀ t : State, s.vm.Alike t.vm → H.size ≤ t.heap.size → (∀ q : Nat, q < H.size → t.heap[q]? = H[q]?) → XC cls s t)
    (hf : ∀ z ∈ locs, free z.base) (hc : cells + 1 ≤ mc) (hs : slots + 6 ≤ ms) :
    W p l e R s m args below meth c H locs cells slots (vx_MQ below Qc XC args s mc ms free) (F0 m pc ls rest) := by
  intro T hT X
  have htr : e.platform.stackTraces = false := (show e.platform.stackTraces = l.stackTraces by rw [X.admits.platform]).trans hl
  have Y := vx_rebase X (R' := { frames := R.frames, locals := R.locals, cells := 1, slots := 6 }) (Nat.le_refl _) (Nat.le_refl _) hRcells hRslots
  obtain ⟨s', hA⟩ : ∃ z, z = (T.setVm s.vm).setFrames (.invoking m args :: below) := ⟨_, rfl⟩
  rw [← hA] at Y
  have hvm : s'.vm = s.vm := by rw [hA]; rfl
  have hhp : s'.heap = H := by rw [hA]; exact hT
  have hW0 : s.WarmedH s'.vm := by rw [hvm]; exact State.WarmedH.refl s
  have hat' : ∀ w ∈ vx_atS own ic cls names, w.before args s' = true := fun w hw => vx_ot_at hW0 hvm.symm (hgood w (List.mem_cons_of_mem _ (List.mem_cons_of_mem _ hw))) (hat w hw)
  have hk' : (Cond.classLink own ik cls).before args s' = true := vx_ot_at hW0 hvm.symm (hgood _ List.mem_cons_self) hk
  have hini' : (Cond.initialized cls).before args s' = true := vx_ot_at hW0 hvm.symm (hgood _ (List.mem_cons_of_mem _ List.mem_cons_self)) hini
  have hU' : vx_Zq Bundle.tN "UNASSIGNED_STACK" Bundle.steD A s' s'.heap := by rw [hhp]; exact vx_Zq.moved hW0.alike (hU.kept hS.2.1)
  have hN' : vx_Zq Bundle.tN "SUPPRESSED_SENTINEL" Bundle.listD A s' s'.heap := by rw [hhp]; exact vx_Zq.moved hW0.alike (hN.kept hS.2.1)
  have h : ∀ w ∈ Bundle.ownAtoms own ic cls names, w.before args s' = true := vx_own hat' (vx_isRefq hU'.1) (vx_isRefq hN'.1) hU'.2.word hN'.2.word
  have hown' : s'.vm.findClass own = some m.cls := by rw [hvm]; exact hown
  have hins : (Cond.instantiable cls 6).before args s' = true := h _ (by simp [Bundle.ownAtoms])
  obtain ⟨vm₁, cX, kX, hfX, hkX, -, -, X₁, st1⟩ := Y.newCold hexec (own := own) (C := cls) (index := ik) (n := 6) hown' hk' hins hini'
    (g := F0 m pc ls rest) rfl (by rw [hb]; exact d0) (Nat.le_refl _) (Nat.le_refl _)
  generalize hT1 : (T.setVm vm₁).pushCell { cls := cX, slots := kX.instanceTypes.map defaultValue, vm := .none } = T1 at X₁ st1
  have hcat : (Value.ref T.heap.size).category = 1 := rfl
  have hcellA : T1.heap[T.heap.size]? = some (freshCell cX kX) := by rw [← hT1]; exact State.heap_pushCell_size _ _
  have d3' : decode c.code (pc + 3) = .ok (.dup, 1) := by rw [hb]; exact d3
  have d4' : decode c.code (pc + 4) = .ok (.ldc_w is, 3) := by rw [hb]; exact d4
  have hstr' : vk_R own is text sa s' := vk_R.warm hW0 hstr
  obtain ⟨U, hsteps, hrun, hend, hW, hsame, ce, hce, hO⟩ := X₁.ctorThrowS hexec htr (own := own) (cls := cls) (names := names) (ic := ic) hown' hcls hnames h (fun x hx => nomatch hx) hfX hkX hcellA (by rw [hhp, hT]; exact Nat.le_refl _) (msg := .ref sa) rfl
    (g := { method := m, pc := pc + 7, locals := ls, stack := .ref sa :: .ref T.heap.size :: .ref T.heap.size :: rest, locked := none }) rfl hsize rfl rfl (rest := rest) rfl
    (by rw [hb]; exact d7) (by rw [hb]; exact d10) hout hRframes (by simp only [List.map_cons, List.sum_cons, hcat]; omega) hlocks
  obtain ⟨f1, f2⟩ := vx_frame hsame
  rw [hhp] at f1 f2
  have hWs : s.WarmedH U.vm := State.WarmedH.trans hW0 hW
  have hcl : s.vm.findClass cls = some ce.cls := by
    have h9 := hO.cls
    rw [hvm] at h9
    exact h9
  have hall : s.sameButNew ({ U with vm := s.vm } : State) locs mc ms := by
    subst hA
    obtain ⟨e1, e2⟩ := hsame
    rw [State.setFrames_setFrames] at e1
    have h2 : (T.setVm s.vm).sameButNew ({ U with vm := s.vm } : State) [] (0 + 1) (0 + 6) := ⟨e1, e2⟩
    have h3 := X.same.trans h2
    rw [List.append_nil] at h3
    exact h3.mono hc hs
  refine ⟨U, ?_, .threw T.heap.size, hrun, hend, Or.inr ⟨T.heap.size, rfl, cls, ce, locs, hx U hWs.alike f1 (fun q hq => f2 q hq (fun z hz => nomatch hz)), hce, hO.vm, hcl, hWs, hall, hf⟩⟩
  refine st1 _ ?_
  show Steps p.tables e below (T1.setTop { method := m, pc := pc + 3, locals := ls, stack := .ref T.heap.size :: rest, locked := none }) _
  jvm_step X₁.here [X₁.here.top, hexec, d3', Value.category]
  exact X₁.ldcStringW hexec (own := own) (text := text) (index := is) (a := sa) hown' hstr'.1 hstr'.2
    (g := { method := m, pc := pc + 4, locals := ls, stack := .ref T.heap.size :: .ref T.heap.size :: rest, locked := none }) rfl d4' _ hsteps
end Ends
section Bodies
variable {l : Launch}
theorem vx_ofW {y : MethodName} {ws ws' : List Cond} {rm : Room} {Pc : Array Value → State → Prop} {Qc : Array Value → State → Outcome → State → Prop} {XC : String → State → State → Prop} {mc ms : Nat} {free : Addr → Prop} {cc : ByteArray} {maxL : Nat} {ret : Option FieldType}
    (hy : plainName y.cls = true) (hw : ws = Cond.code y cc maxL ret :: ws')
    (body : ∀ p e s m args below meth c s₁, BodyLoose p l y (headSpec ws rm) cc maxL ret e s m args below meth c s₁ → c.maxLocals = maxL → (∀ x ∈ c.exceptionTable.toList, False) → Pc args s →
      W p l e (headSpec ws rm).room s m args below meth c s.heap [] 0 0 (vx_MQ below Qc XC args s mc ms free) (entryFrame m args maxL)) : vx_Met l y ws rm Pc Qc XC mc ms free := by
  refine MetFree.of_bodyS (code := cc) (maxLocals := maxL) (ret := ret) hy ?_ ?_
  · intro args s m h hn
    obtain ⟨meth, c, h1, h2, h3, h4, h5, h6, -, -⟩ := Cond.code_spec hn (atoms_spec (ws := ws) h _ (by rw [hw]; exact List.mem_cons_self))
    exact ⟨meth, c, h1, h2, h3, h4, h5, h6⟩
  · intro p e s m args below meth c s₁ B hml hP _
    have hh0 : s₁.heap = s.heap := by rw [B.state]; rfl
    have ht : ∀ x ∈ c.exceptionTable.toList, False := by
      obtain ⟨meth9, c9, h1, h2, -, -, -, -, h7, -⟩ := Cond.code_spec B.named (atoms_spec (ws := ws) B.pre _ (by rw [hw]; exact List.mem_cons_self))
      cases Option.some.inj (h1.symm.trans B.method)
      cases Option.some.inj (h2.symm.trans (Stand.of_body B).code)
      intro x hx
      rw [Array.isEmpty_iff.mp h7] at hx
      cases hx
    obtain ⟨t, a1, o, b1, b2, b3⟩ := body p e s m args below meth c s₁ B hml ht hP s₁ hh0 (Stand.of_body B)
    exact ⟨t, o, a1, b1, b2, b3⟩
/-- the table of a body with handlers -/
theorem vx_table {p : Program} {x y : MethodName} {S : Spec} {cc bytes : ByteArray} {maxL maxL' : Nat} {ret ret' : Option FieldType} {e : Env} {s s₁ : State} {m : MethodId} {args : Array Value} {below : List Frame} {meth : Method} {c : Code} {hh : List (Nat × Nat × Nat × Nat)}
    (B : BodyLoose p l y S cc maxL ret e s m args below meth c s₁) (h : (Cond.codeWith y bytes maxL' ret' hh).before args s = true) : c.exceptionTable.toList = tableOf hh := by
  obtain ⟨m9, meth9, c9, hn9, h1, h2, -, -, h6, -⟩ := Cond.codeWith_spec h
  cases Option.some.inj (hn9.symm.trans B.named)
  cases Option.some.inj (h1.symm.trans B.method)
  cases Option.some.inj (h2.symm.trans (Stand.of_body B).code)
  rw [← h6, table_eq]
end Bodies
end VXA
/-! ===== END ===== -/
/-! ===== BEGIN a static call of a method with an exception table ===== -/
section VXS
variable {p : Program} {l : Launch} {e : Env} {R : Room} {s : State} {m : MethodId} {args : Array Value} {below : List Frame} {meth : Method} {c : Code} {T : State} {H : Heap} {locs : List Loc} {cells slots : Nat}
abbrev vx_CSW (R : Room) (s : State) (args : Array Value) (own : String) (index : Nat) (y : MethodName) (bytes : ByteArray) (maxL : Nat) (ret : Option FieldType) (hh : List (Nat × Nat × Nat × Nat)) (ws : List Cond) (rm : Room) (mc ms n : Nat) : Prop :=
  (rm.cells = mc ∧ rm.slots = ms ∧ rm.frames + 1 ≤ R.frames ∧ 8 + (maxL + 11) + rm.locals ≤ R.locals ∧ (∀ w ∈ ws, ∀ (a' : Array Value) (U : State), s.WarmedH U.vm → w.before a' U = true) ∧ Cond.codeWith y bytes maxL ret hh ∈ ws) ∧
  (Cond.codeWith y bytes maxL ret hh).before args s = true ∧ (Cond.initialized y.cls).before args s = true ∧ (y.cls ≠ "java/lang/invoke/MethodHandle" ∧ y.cls ≠ "java/lang/invoke/VarHandle") ∧
  (∀ sig, parseMethodDescriptor y.desc = some sig → n = sig.parameters.length) ∧ (Cond.methodLink own index y).before args s = true ∧ (Cond.static y).before args s = true
theorem vx_cwSW {own : String} {index maxL mc ms : Nat} {y : MethodName} {bytes : ByteArray} {ret : Option FieldType} {hh : List (Nat × Nat × Nat × Nat)} {Ts ws ws' : List Cond} {rm : Room} (n : Nat) (ht : ∀ w ∈ Ts, w.before args s = true) (hT : GoodIn Ts (va_wsS own index y ws)) (hw : ws = Cond.codeWith y bytes maxL ret hh :: ws') (hrc : rm.cells = mc) (hrs : rm.slots = ms)
    (hd : y.cls ≠ "java/lang/invoke/MethodHandle" ∧ y.cls ≠ "java/lang/invoke/VarHandle" ∧ (parseMethodDescriptor y.desc).map (fun d => d.parameters.length) = some n) (hR : rm.frames + 1 ≤ R.frames ∧ 8 + (maxL + 11) + rm.locals ≤ R.locals) :
    vx_CSW R s args own index y bytes maxL ret hh ws rm mc ms n := by
  have ok : ∀ w ∈ va_wsS own index y ws, w.before args s = true := fun w h => ht w (hT w h).1
  have hG : GoodIn Ts ws := fun w h => hT w (by unfold va_wsS; exact List.mem_append_right _ h)
  have hc : Cond.codeWith y bytes maxL ret hh ∈ ws := by rw [hw]; exact List.mem_cons_self
  refine ⟨⟨hrc, hrs, hR.1, hR.2, pay_in ht hG, hc⟩, ht _ (hG _ hc).1, ok _ (by simp [va_wsS]), ⟨hd.1, hd.2.1⟩, fun sig h => ?_, ok _ (by simp [va_wsS]), ok _ (by simp [va_wsS])⟩
  have h2 := hd.2.2
  rw [h] at h2
  exact (Option.some.inj h2).symm
theorem vx_callSW (X : Stand p l e R s m args below meth c T locs cells slots) (hexec : p.tables.exec = Jvm.exec) {own : String} {index : Nat} {y : MethodName} {bytes : ByteArray} {maxL : Nat} {ret : Option FieldType} {hh : List (Nat × Nat × Nat × Nat)}
    (hown : s.vm.findClass own = some m.cls) (hlink : (Cond.methodLink own index y).before args s = true) (hstat : (Cond.static y).before args s = true) (hinit : (Cond.initialized y.cls).before args s = true)
    (hcode : (Cond.codeWith y bytes maxL ret hh).before args s = true) (hy : y.cls ≠ "java/lang/invoke/MethodHandle" ∧ y.cls ≠ "java/lang/invoke/VarHandle")
    {W9 : Nat} {Pre : Pt → Array Value → Prop} {Post : Pt → Array Value → Option Value → Pt → Prop} (hK : Back l R p e below s args y 3 W9 Pre Post)
    {g : JFrame} (hg : g.method = m) (hsize : g.locals.size = c.maxLocals) {argsL rest : List Value} (hlen : ∀ sig, parseMethodDescriptor y.desc = some sig → argsL.length = sig.parameters.length)
    (hstack : g.stack = argsL.reverse ++ rest) (hW : 2 * g.monitorRoom + (rest.map fun v => v.category).sum ≤ W9) (hdg : decode c.code g.pc = .ok (.invokestatic index, 3))
    (hpre : ∀ vm₁, s.WarmedH vm₁ → Pre ⟨T.setVm vm₁, locs, cells, slots⟩ argsL.toArray) :
    ∃ (v : Option Value) (vm₁ : Vm) (B : Pt), s.WarmedH vm₁ ∧ Stand p l e R s m args below meth c B.U B.locs B.cells B.slots ∧ Post ⟨T.setVm vm₁, locs, cells, slots⟩ argsL.toArray v B ∧
      ∀ target, Steps p.tables e below (B.U.setTop { g with pc := g.pc + 3, stack := v.toList ++ rest }) target → Steps p.tables e below (T.setTop g) target := by
  obtain ⟨mk, methM, cM, hnamed, hmethM, -, -, -, -, -, -, hsigM⟩ := Cond.codeWith_spec hcode
  have hstatic : methM.isStatic = true := Cond.static_spec hnamed hmethM hstat
  obtain ⟨kP, hkP, -⟩ := className_of_methodNamed hnamed
  have hinitP : kP.init = .initialized := Cond.initialized_spec (findClass_of_methodNamed hnamed) hkP hinit
  obtain ⟨vm₁, X₁, hstep₁⟩ := X.invokestatic hexec hown hlink hnamed hmethM hstatic hkP hinitP hy (g := g) hg (argsL := argsL) (rest := rest) (hlen _ hsigM) hstack hdg
  obtain ⟨v, B, X', hpost, hsteps⟩ := hK m meth c ⟨T.setVm vm₁, locs, cells, slots⟩ { g with stack := rest } (.invokestatic index) mk argsL.toArray X₁ hg hsize hdg hW (X₁.named hnamed) (hpre vm₁ X₁.warmed)
  exact ⟨v, vm₁, B, X₁.warmed, X', hpost, fun target h => hstep₁ _ fun acts => by rw [doInvoke_state]; exact hsteps.trans h⟩
theorem vx_runSW {y : MethodName} {bytes cc : ByteArray} {maxL nL mc ms n index : Nat} {ret : Option FieldType} {hh : List (Nat × Nat × Nat × Nat)} {ws : List Cond} {rm : Room} {Pc : Array Value → State → Prop} {Qc : Array Value → State → Outcome → State → Prop} {free : Addr → Prop} {Ts : List Cond} {own : String} {As rest : List Value} {g : JFrame}
    (S : CallFix p m c cc nL s args Ts own) (hM : Met l y ws rm Pc Qc mc ms free) (cw : vx_CSW R s args own index y bytes maxL ret hh ws rm mc ms n) (hp : PreS s H Pc As)
    (hg : g.method = m) (hn : As.length = n) (hsize : g.locals.size = nL) (hstack : g.stack = As.reverse ++ rest) (hW : 2 * g.monitorRoom + (rest.map fun v => v.category).sum ≤ 8) (hdg : decode cc g.pc = .ok (.invokestatic index, 3)) (hf : cells + mc ≤ R.cells ∧ slots + ms ≤ R.slots) :
    va_Run p l e R s m args below meth c H locs cells slots mc ms g rest (Qc As.toArray) (free) := by
  obtain ⟨⟨hrc, hrs, hfr, hlo, hws, hcw⟩, hcode, hini, hy, hlen, hl, hstt⟩ := cw
  have hK : Back l R p e below s args y 3 8 (PreOf R mc ms Pc) (PostOf Qc mc ms free) := va_backW (hh := hh) (bytes := bytes) (maxL := maxL) (ret := ret) hM hp.1 hrc hrs hfr hlo hws hcw (fun a' U hW => word_at hW (Or.inl (by first | rfl | simp [Cond.onTables, Cond.keeps, Cond.steady])) hini)
  obtain ⟨hx, hb, hml, ho, -⟩ := S
  intro T hT X
  obtain ⟨v, vm₁, ⟨U', l2, c2, s2⟩, hW₁, X', ⟨g', mk, t, L, e1, e2, hq, h1, hL, h2, h3⟩, st⟩ := vx_callSW X hx (hh := hh) (bytes := bytes) (maxL := maxL) (ret := ret) ho hl hstt hini hcode hy hK hg (hsize.trans hml.symm) (argsL := As) (rest := rest) (fun sig h => hn.trans (hlen sig h)) hstack hW (by rw [hb]; exact hdg)
    (fun vm₁ hW₁ => ⟨hf.1, hf.2, hp.2 (T.setVm vm₁) hT hW₁⟩)
  dsimp only [Pt.U, Pt.locs, Pt.cells, Pt.slots] at X' e1 e2 h1 h2 h3 st
  subst h1; subst h2; subst h3
  exact ⟨v, (T.setVm vm₁).calling g' mk As.toArray, t, U', L, hT, X', hL, e1, e2, hq, st⟩
/-- not caught here, past rows that name other classes: it goes on to the caller -/
theorem vx_outP {p : Program} {l : Launch} {e : Env} {R : Room} {s : State} {m : MethodId} {args : Array Value} {below : List Frame} {meth : Method} {c : Code} {H : Heap} {locs : List Loc} {cells slots : Nat} {free : Addr → Prop} {ls : Array Slot} {rest : List Value} {Qc : Array Value → State → Outcome → State → Prop} {XC : String → State → State → Prop}
    {pc : Nat} {own E : String} {ce : Cell} {q : Addr} {mc ms : Nat} (hown : s.vm.findClass own = some m.cls) (hlocks : meth.locks = false)
    (hpass : ∀ z ∈ c.exceptionTable.toList, covers z pc = false ∨ (z.catchType ≠ 0 ∧ ∃ nm : String, (Cond.classLink own z.catchType nm).before args s = true ∧ va_Nc E nm s)) (hcell : H[q]? = some ce) (hv : ce.vm = .none) (hcl : s.vm.findClass E = some ce.cls)
    (hx : ∀ t : State, t.heap = H → s.vm.Alike t.vm → XC E s t) (hf : ∀ z ∈ locs, free z.base) (hc : cells ≤ mc) (hs : slots ≤ ms) :
    vx_W p l e R s m args below meth c H locs cells slots (vx_MQ below Qc XC args s mc ms free) (F0 m pc ls rest) q := by
  intro T hT X
  have hpl : e.platform.magicAccessors = ({} : Platform).magicAccessors := by rw [X.admits.platform]
  obtain ⟨vm', hW', X', st⟩ := X.outThrough hlocks q (g := F0 m pc ls rest) rfl rfl rfl (cell := ce) (by rw [hT]; exact hcell) (by rw [hv]; rfl)
    (by obtain ⟨k9, h9, -⟩ := Vm.findClass_spec hcl; exact ⟨k9, h9⟩) (fun z hz => by
      rcases hpass z hz with h | ⟨hz0, nm, hl1, hn1⟩
      · exact Or.inl h
      · obtain ⟨c6, hc6, hcl6⟩ := Cond.classLink_spec hown hl1 e.platform hpl
        obtain ⟨a8, b8, h1, h2, h3⟩ := hn1
        cases Option.some.inj (h1.symm.trans hcl)
        cases Option.some.inj (h2.symm.trans hc6)
        exact Or.inr ⟨hz0, _, hcl6, h3⟩)
  obtain ⟨g₀, hfr⟩ := X'.frames_eq
  have hcell9 : ((T.setVm vm').setFrames (.throwing q :: below)).heap[q]? = some ce := by
    show T.heap[q]? = some ce
    rw [hT]; exact hcell
  have hend : Ended ((T.setVm vm').setFrames (.throwing q :: below)) below (.threw q) := State.frames_setFrames _ (State.cur_lt_of_frames hfr)
  refine ⟨(T.setVm vm').setFrames (.throwing q :: below), ?_, .threw q, X'.here.running, hend, Or.inr ⟨q, rfl, E, ce, locs, hx _ hT (X'.ends _).1.alike, hcell9, hv, hcl, (X'.ends _).1, (X'.ends _).2.mono hc hs, hf⟩⟩
  rw [X.pushThrowing_eq]
  exact st
/-- a thing of a world lies in the heap -/
theorem vx_lt {D : va_G} {cl : List vw_C} {ws : va_W} {H1 : Heap} (h : va_P D cl ws H1) {k : Nat} {q : Nat × va_E} (hk : ws[k]? = some q) : q.1 < H1.size := (h k q hk).lt
end VXS
/-! ===== END ===== -/
/-! ===== BEGIN methods with a table of their own: called by a name, returning or throwing ===== -/
section VXH
/-! vx_backW, vx_callVX, vx_callSX, vx_callVW, vx_runVW, vx_runVX, vx_runSX, vx_ofWH follow the same proofs as their sisters above (Free/Laws.lean, Shelf42/LK1.lean); vx_outP calls Shelf42/NT130.lean (outThrough). -/
section
variable {l : Launch} {R : Room} {p : Program} {e : Env} {below : List Frame} {s : State} {sargs : Array Value} {y : MethodName} {len W9 : Nat}
theorem vx_backW {ws : List Cond} {rm : Room} {Pc : Array Value → State → Prop} {Qc : Array Value → State → Outcome → State → Prop} {XC : String → State → State → Prop} {mc ms : Nat} {free : Addr → Prop} {bytes : ByteArray} {maxL : Nat} {ret : Option FieldType} {hh : List (Nat × Nat × Nat × Nat)}
    (hM : vx_Met l y ws rm Pc Qc XC mc ms free) (hblind : FrameBlind Pc) (hrc : rm.cells = mc) (hrs : rm.slots = ms)
    (hframes : rm.frames + 1 ≤ R.frames) (hlocals : W9 + (maxL + 11) + rm.locals ≤ R.locals)
    (hws : ∀ w ∈ ws, ∀ a' U, s.WarmedH U.vm → w.before a' U = true) (hcode : Cond.codeWith y bytes maxL ret hh ∈ ws) (hinit : ∀ a' U, s.WarmedH U.vm → (Cond.initialized y.cls).before a' U = true) :
    vx_Back l R p e below s sargs y len W9 (PreOf R mc ms Pc) (PostOf Qc mc ms free) (vx_Post XC mc ms free) := by
  intro m meth c A g ig mk a X hg hsize hdg hW hn hp
  have h1 : (headSpec ws rm).pre.before a A.U = true := atoms_intro fun w hw => hws w hw _ _ X.warmed
  have h2 : (Cond.codeWith y bytes maxL ret hh).before a A.U = true := hws _ hcode _ _ X.warmed
  have h3 : (Cond.initialized y.cls).before a A.U = true := hinit _ _ X.warmed
  have h4 : A.cells + (headSpec ws rm).room.cells ≤ R.cells := by rw [show (headSpec ws rm).room.cells = mc from hrc]; exact hp.1
  have h5 : A.slots + (headSpec ws rm).room.slots ≤ R.slots := by rw [show (headSpec ws rm).room.slots = ms from hrs]; exact hp.2.1
  have hPc : Pc a (A.U.calling g mk a) := hblind _ _ _ _ hp.2.2
  obtain ⟨U, Ls, c0, s0⟩ := A
  dsimp only [Pt.U, Pt.locs, Pt.cells, Pt.slots] at h1 h2 h3 h4 h5 X hn hPc ⊢
  obtain ⟨m9, methY, cY, hn9, hmY, hcY, -, hlY, -⟩ := Cond.codeWith_spec h2
  cases Option.some.inj (hn9.symm.trans hn)
  obtain ⟨kY, hkY, -⟩ := className_of_methodNamed hn
  have hinitY : kY.init = .initialized := Cond.initialized_spec (findClass_of_methodNamed hn) hkY h3
  have h : At U g.method c below := by rw [hg]; exact X.here
  have hlocals9 : W9 + (maxL + 11) + (headSpec ws rm).room.locals ≤ R.locals := hlocals
  have happ : (headSpec ws rm).appliesLoose y e.platform (U.calling g mk a) = true :=
    Spec.appliesLoose_calling (g := g) h hdg hn hkY hinitY
      (X.room_calling (g := g) (R' := (headSpec ws rm).room) hsize hmY hcY hframes (by rw [hlY]; omega) h4 h5) h1
  obtain ⟨mid, hmid⟩ := h.above
  have hfr : (U.setTop g).frames = (.java g :: mid) ++ below := by rw [State.frames_setTop' g h.top, hmid]; rfl
  obtain ⟨o, s₂, hsteps, -, hend, hq⟩ := Steps.callFree hM p X.admits X.cas X.clock (acts := []) hfr happ hPc trivial
  have hq' : vx_Q Qc XC mc ms free a (U.calling g mk a) o s₂ := hq
  rw [State.frames_setTop' g h.top] at hend
  obtain ⟨g₀, hg0⟩ := Option.isSome_iff_exists.mp h.top
  obtain ⟨r, hr⟩ := State.topJava?_eq_some.mp hg0
  have hr' : (({ U with heap := s₂.heap, slotsUsed := s₂.slotsUsed } : State).setVm s₂.vm).frames = .java g₀ :: r := hr
  rcases hq' with ⟨hqc, L, hfe, hL⟩ | ⟨q, rfl, E, ce, L, hx, hce, hcv, hcl, hW₂, hsm, hL⟩
  · obtain ⟨⟨v, rfl⟩, hW₂, e2, q2, q3, q4, q5, q6⟩ := id hfe
    have e3 : s₂ = ({ (U.calling g mk a).setFrames s₂.frames with heap := s₂.heap, slotsUsed := s₂.slotsUsed } : State).setVm s₂.vm := by
      have : s₂ = ({ s₂ with vm := (U.calling g mk a).vm } : State).setVm s₂.vm := rfl
      rw [e2] at this
      exact this
    obtain ⟨c₂, i₂, len₂, hc₂, hd₂, hf₂⟩ := hend
    have hW' : U.WarmedH s₂.vm := hW₂
    have hcc : c₂ = c := by
      have h1 : s₂.code? g.method = U.code? g.method := by
        rw [State.code?_eq, State.code?_eq, hW'.alike.method?]
      exact Option.some.inj (hc₂.symm.trans (h1.trans h.code))
    subst hcc
    have hlen : len₂ = len := by rw [hdg] at hd₂; cases hd₂; rfl
    subst hlen
    have hs₂ : s₂ = (({ U with heap := s₂.heap, slotsUsed := s₂.slotsUsed } : State).setVm s₂.vm).setTop { g with pc := g.pc + len₂, stack := v.toList ++ g.stack } := by
      refine e3.trans ?_
      rw [hf₂, State.calling_eq h.top, State.setFrames_setFrames, State.setTop_of_frames _ hr', hr]
      rfl
    have hsame : U.sameButNew ({ U with heap := s₂.heap, slotsUsed := s₂.slotsUsed } : State) L mc ms := by
      refine ⟨?_, q2, q3, q4, q5, q6⟩
      obtain ⟨t, ht, -⟩ := State.frames_cons hr
      show ({ U with heap := s₂.heap, slotsUsed := s₂.slotsUsed } : State) = { U.setFrames U.frames with heap := s₂.heap, slotsUsed := s₂.slotsUsed }
      rw [State.setFrames_self ht]
    subst hg
    refine Or.inl ⟨v, ⟨(({ U with heap := s₂.heap, slotsUsed := s₂.slotsUsed } : State).setVm s₂.vm), Ls ++ L, c0 + mc, s0 + ms⟩,
      ⟨X.admits, X.cas, X.clock, X.frames, X.room, X.hears, X.method, X.code, (X.here.setHeapUsed s₂.heap s₂.slotsUsed).setVm hW'.alike, X.tail, State.WarmedH.trans X.warmed hW', X.limits, X.bytes, X.same.trans (hsame.setVm s.vm)⟩,
      ⟨g, mk, s₂, L, rfl, rfl, hqc, rfl, hL, rfl, rfl⟩, ?_⟩
    show Steps p.tables e below _ ((({ U with heap := s₂.heap, slotsUsed := s₂.slotsUsed } : State).setVm s₂.vm).setTop { g with pc := g.pc + len₂, stack := v.toList ++ g.stack })
    rw [← hs₂]
    exact hsteps
  · obtain ⟨e2, q2, q3, q4, q5, q6⟩ := id hsm
    have e3 : s₂ = ({ (U.calling g mk a).setFrames s₂.frames with heap := s₂.heap, slotsUsed := s₂.slotsUsed } : State).setVm s₂.vm := by
      have : s₂ = ({ s₂ with vm := (U.calling g mk a).vm } : State).setVm s₂.vm := rfl
      rw [e2] at this
      exact this
    have hf₂ : s₂.frames = .throwing q :: .java g :: U.frames.tail := hend
    have hW' : U.WarmedH s₂.vm := hW₂
    have hs₂ : s₂ = ((({ U with heap := s₂.heap, slotsUsed := s₂.slotsUsed } : State).setVm s₂.vm).setTop g).pushFrame (.throwing q) := by
      refine e3.trans ?_
      rw [hf₂, State.calling_eq h.top, State.setFrames_setFrames, State.pushFrame, State.frames_setTop _ hr', State.setTop_of_frames _ hr', State.setFrames_setFrames, hr]
      rfl
    have hsame : U.sameButNew ({ U with heap := s₂.heap, slotsUsed := s₂.slotsUsed } : State) L mc ms := by
      refine ⟨?_, q2, q3, q4, q5, q6⟩
      obtain ⟨t, ht, -⟩ := State.frames_cons hr
      show ({ U with heap := s₂.heap, slotsUsed := s₂.slotsUsed } : State) = { U.setFrames U.frames with heap := s₂.heap, slotsUsed := s₂.slotsUsed }
      rw [State.setFrames_self ht]
    subst hg
    refine Or.inr ⟨q, ⟨(({ U with heap := s₂.heap, slotsUsed := s₂.slotsUsed } : State).setVm s₂.vm), Ls ++ L, c0 + mc, s0 + ms⟩,
      ⟨X.admits, X.cas, X.clock, X.frames, X.room, X.hears, X.method, X.code, (X.here.setHeapUsed s₂.heap s₂.slotsUsed).setVm hW'.alike, X.tail, State.WarmedH.trans X.warmed hW', X.limits, X.bytes, X.same.trans (hsame.setVm s.vm)⟩,
      ⟨g, mk, s₂, L, E, ce, rfl, rfl, hx, hce, hcv, hcl, rfl, hL, rfl, rfl⟩, ?_⟩
    show Steps p.tables e below _ (((({ U with heap := s₂.heap, slotsUsed := s₂.slotsUsed } : State).setVm s₂.vm).setTop g).pushFrame (.throwing q))
    rw [← hs₂]
    exact hsteps
end
variable {p : Program} {l : Launch} {e : Env} {R : Room} {s : State} {m : MethodId} {args : Array Value} {below : List Frame} {meth : Method} {c : Code} {T : State} {H : Heap} {locs : List Loc} {cells slots : Nat}
theorem vx_callVX (X : Stand p l e R s m args below meth c T locs cells slots) (hexec : p.tables.exec = Jvm.exec) {own C : String} {index : Nat} {y : MethodName} {bytes : ByteArray} {maxL : Nat} {ret : Option FieldType} {hh : List (Nat × Nat × Nat × Nat)}
    (hown : s.vm.findClass own = some m.cls) (hlink : (Cond.methodLink own index y).before args s = true) (hinst : (Cond.instanceMethod y).before args s = true) (hsel : (Cond.selects C y y).before args s = true)
    (hcode : (Cond.codeWith y bytes maxL ret hh).before args s = true) (hy : y.cls ≠ "java/lang/invoke/MethodHandle" ∧ y.cls ≠ "java/lang/invoke/VarHandle")
    {W9 : Nat} {Pre : Pt → Array Value → Prop} {Post : Pt → Array Value → Option Value → Pt → Prop} {PostX : Pt → Array Value → Addr → Pt → Prop} (hK : vx_Back l R p e below s args y 3 W9 Pre Post PostX)
    {b : Addr} {cellB : Cell} (hcell : T.heap[b]? = some cellB) (hobj : cellB.vm.isStatics = false) (hcls : s.vm.findClass C = some cellB.cls)
    {g : JFrame} (hg : g.method = m) (hsize : g.locals.size = c.maxLocals) {argsL rest : List Value} (hlen : ∀ sig, parseMethodDescriptor y.desc = some sig → argsL.length = sig.parameters.length)
    (hstack : g.stack = argsL.reverse ++ .ref b :: rest) (hW : 2 * g.monitorRoom + (rest.map fun v => v.category).sum ≤ W9) (hdg : decode c.code g.pc = .ok (.invokevirtual index, 3))
    (hpre : ∀ vm₁, s.WarmedH vm₁ → Pre ⟨T.setVm vm₁, locs, cells, slots⟩ (Value.ref b :: argsL).toArray) :
    (∃ (v : Option Value) (vm₁ : Vm) (B : Pt), s.WarmedH vm₁ ∧ Stand p l e R s m args below meth c B.U B.locs B.cells B.slots ∧ Post ⟨T.setVm vm₁, locs, cells, slots⟩ (Value.ref b :: argsL).toArray v B ∧
      ∀ target, Steps p.tables e below (B.U.setTop { g with pc := g.pc + 3, stack := v.toList ++ rest }) target → Steps p.tables e below (T.setTop g) target) ∨
    (∃ (q : Addr) (vm₁ : Vm) (B : Pt), s.WarmedH vm₁ ∧ Stand p l e R s m args below meth c B.U B.locs B.cells B.slots ∧ PostX ⟨T.setVm vm₁, locs, cells, slots⟩ (Value.ref b :: argsL).toArray q B ∧
      Steps p.tables e below (T.setTop g) ((B.U.setTop { g with stack := rest }).pushFrame (.throwing q))) := by
  obtain ⟨mk, methM, hnamed, hmethM, hstM, habM⟩ := Cond.instanceMethod_spec hinst
  obtain ⟨m8, methM', cM, hn8, hmethM', -, -, -, -, -, -, hsigM⟩ := Cond.codeWith_spec hcode
  cases Option.some.inj (hn8.symm.trans hnamed)
  cases hmethM.symm.trans hmethM'
  obtain ⟨c2, r2, m2, q1, q2, q3, q4, kP, hkP, hkPi⟩ := Cond.selects_spec hsel
  cases hcls.symm.trans q1
  cases (State.methodFound?_of_named hnamed hy).symm.trans q2
  cases hnamed.symm.trans q3
  have hselP : selectMethod e.platform s.vm cellB.cls mk = .method mk := by rw [Launch.admits_selectMethod X.admits]; exact q4
  obtain ⟨vm₁, X₁, hstep₁⟩ := X.invokevirtual hexec hown hlink hnamed hmethM hstM hkP hkPi hy (a := b) (cell := cellB) hcell
    (fun z h => by rw [h] at hobj; cases hobj) hselP hmethM habM hkP hkPi (g := g) hg (argsL := argsL) (rest := rest) (hlen _ hsigM) hstack hdg
  rcases hK m meth c ⟨T.setVm vm₁, locs, cells, slots⟩ { g with stack := rest } (.invokevirtual index) mk (Value.ref b :: argsL).toArray X₁ hg hsize hdg hW (X₁.named hnamed) (hpre vm₁ X₁.warmed) with ⟨v, B, X', hpost, hsteps⟩ | ⟨q, B, X', hpost, hsteps⟩
  · exact Or.inl ⟨v, vm₁, B, X₁.warmed, X', hpost, fun target h => hstep₁ _ fun acts => by rw [doInvoke_state]; exact hsteps.trans h⟩
  · exact Or.inr ⟨q, vm₁, B, X₁.warmed, X', hpost, hstep₁ _ fun acts => by rw [doInvoke_state]; exact hsteps⟩
theorem vx_callSX (X : Stand p l e R s m args below meth c T locs cells slots) (hexec : p.tables.exec = Jvm.exec) {own : String} {index : Nat} {y : MethodName} {bytes : ByteArray} {maxL : Nat} {ret : Option FieldType} {hh : List (Nat × Nat × Nat × Nat)}
    (hown : s.vm.findClass own = some m.cls) (hlink : (Cond.methodLink own index y).before args s = true) (hstat : (Cond.static y).before args s = true) (hinit : (Cond.initialized y.cls).before args s = true)
    (hcode : (Cond.codeWith y bytes maxL ret hh).before args s = true) (hy : y.cls ≠ "java/lang/invoke/MethodHandle" ∧ y.cls ≠ "java/lang/invoke/VarHandle")
    {W9 : Nat} {Pre : Pt → Array Value → Prop} {Post : Pt → Array Value → Option Value → Pt → Prop} {PostX : Pt → Array Value → Addr → Pt → Prop} (hK : vx_Back l R p e below s args y 3 W9 Pre Post PostX)
    {g : JFrame} (hg : g.method = m) (hsize : g.locals.size = c.maxLocals) {argsL rest : List Value} (hlen : ∀ sig, parseMethodDescriptor y.desc = some sig → argsL.length = sig.parameters.length)
    (hstack : g.stack = argsL.reverse ++ rest) (hW : 2 * g.monitorRoom + (rest.map fun v => v.category).sum ≤ W9) (hdg : decode c.code g.pc = .ok (.invokestatic index, 3))
    (hpre : ∀ vm₁, s.WarmedH vm₁ → Pre ⟨T.setVm vm₁, locs, cells, slots⟩ argsL.toArray) :
    (∃ (v : Option Value) (vm₁ : Vm) (B : Pt), s.WarmedH vm₁ ∧ Stand p l e R s m args below meth c B.U B.locs B.cells B.slots ∧ Post ⟨T.setVm vm₁, locs, cells, slots⟩ argsL.toArray v B ∧
      ∀ target, Steps p.tables e below (B.U.setTop { g with pc := g.pc + 3, stack := v.toList ++ rest }) target → Steps p.tables e below (T.setTop g) target) ∨
    (∃ (q : Addr) (vm₁ : Vm) (B : Pt), s.WarmedH vm₁ ∧ Stand p l e R s m args below meth c B.U B.locs B.cells B.slots ∧ PostX ⟨T.setVm vm₁, locs, cells, slots⟩ argsL.toArray q B ∧
      Steps p.tables e below (T.setTop g) ((B.U.setTop { g with stack := rest }).pushFrame (.throwing q))) := by
  obtain ⟨mk, methM, cM, hnamed, hmethM, -, -, -, -, -, -, hsigM⟩ := Cond.codeWith_spec hcode
  have hstatic : methM.isStatic = true := Cond.static_spec hnamed hmethM hstat
  obtain ⟨kP, hkP, -⟩ := className_of_methodNamed hnamed
  have hinitP : kP.init = .initialized := Cond.initialized_spec (findClass_of_methodNamed hnamed) hkP hinit
  obtain ⟨vm₁, X₁, hstep₁⟩ := X.invokestatic hexec hown hlink hnamed hmethM hstatic hkP hinitP hy (g := g) hg (argsL := argsL) (rest := rest) (hlen _ hsigM) hstack hdg
  rcases hK m meth c ⟨T.setVm vm₁, locs, cells, slots⟩ { g with stack := rest } (.invokestatic index) mk argsL.toArray X₁ hg hsize hdg hW (X₁.named hnamed) (hpre vm₁ X₁.warmed) with ⟨v, B, X', hpost, hsteps⟩ | ⟨q, B, X', hpost, hsteps⟩
  · exact Or.inl ⟨v, vm₁, B, X₁.warmed, X', hpost, fun target h => hstep₁ _ fun acts => by rw [doInvoke_state]; exact hsteps.trans h⟩
  · exact Or.inr ⟨q, vm₁, B, X₁.warmed, X', hpost, hstep₁ _ fun acts => by rw [doInvoke_state]; exact hsteps⟩
theorem vx_callVW (X : Stand p l e R s m args below meth c T locs cells slots) (hexec : p.tables.exec = Jvm.exec) {own C : String} {index : Nat} {y : MethodName} {bytes : ByteArray} {maxL : Nat} {ret : Option FieldType} {hh : List (Nat × Nat × Nat × Nat)}
    (hown : s.vm.findClass own = some m.cls) (hlink : (Cond.methodLink own index y).before args s = true) (hinst : (Cond.instanceMethod y).before args s = true) (hsel : (Cond.selects C y y).before args s = true)
    (hcode : (Cond.codeWith y bytes maxL ret hh).before args s = true) (hy : y.cls ≠ "java/lang/invoke/MethodHandle" ∧ y.cls ≠ "java/lang/invoke/VarHandle")
    {W9 : Nat} {Pre : Pt → Array Value → Prop} {Post : Pt → Array Value → Option Value → Pt → Prop} (hK : Back l R p e below s args y 3 W9 Pre Post)
    {b : Addr} {cellB : Cell} (hcell : T.heap[b]? = some cellB) (hobj : cellB.vm.isStatics = false) (hcls : s.vm.findClass C = some cellB.cls)
    {g : JFrame} (hg : g.method = m) (hsize : g.locals.size = c.maxLocals) {argsL rest : List Value} (hlen : ∀ sig, parseMethodDescriptor y.desc = some sig → argsL.length = sig.parameters.length)
    (hstack : g.stack = argsL.reverse ++ .ref b :: rest) (hW : 2 * g.monitorRoom + (rest.map fun v => v.category).sum ≤ W9) (hdg : decode c.code g.pc = .ok (.invokevirtual index, 3))
    (hpre : ∀ vm₁, s.WarmedH vm₁ → Pre ⟨T.setVm vm₁, locs, cells, slots⟩ (Value.ref b :: argsL).toArray) :
    ∃ (v : Option Value) (vm₁ : Vm) (B : Pt), s.WarmedH vm₁ ∧ Stand p l e R s m args below meth c B.U B.locs B.cells B.slots ∧ Post ⟨T.setVm vm₁, locs, cells, slots⟩ (Value.ref b :: argsL).toArray v B ∧
      ∀ target, Steps p.tables e below (B.U.setTop { g with pc := g.pc + 3, stack := v.toList ++ rest }) target → Steps p.tables e below (T.setTop g) target := by
  obtain ⟨mk, methM, hnamed, hmethM, hstM, habM⟩ := Cond.instanceMethod_spec hinst
  obtain ⟨m8, methM', cM, hn8, hmethM', -, -, -, -, -, -, hsigM⟩ := Cond.codeWith_spec hcode
  cases Option.some.inj (hn8.symm.trans hnamed)
  cases hmethM.symm.trans hmethM'
  obtain ⟨c2, r2, m2, q1, q2, q3, q4, kP, hkP, hkPi⟩ := Cond.selects_spec hsel
  cases hcls.symm.trans q1
  cases (State.methodFound?_of_named hnamed hy).symm.trans q2
  cases hnamed.symm.trans q3
  have hselP : selectMethod e.platform s.vm cellB.cls mk = .method mk := by rw [Launch.admits_selectMethod X.admits]; exact q4
  obtain ⟨vm₁, X₁, hstep₁⟩ := X.invokevirtual hexec hown hlink hnamed hmethM hstM hkP hkPi hy (a := b) (cell := cellB) hcell
    (fun z h => by rw [h] at hobj; cases hobj) hselP hmethM habM hkP hkPi (g := g) hg (argsL := argsL) (rest := rest) (hlen _ hsigM) hstack hdg
  obtain ⟨v, B, X', hpost, hsteps⟩ := hK m meth c ⟨T.setVm vm₁, locs, cells, slots⟩ { g with stack := rest } (.invokevirtual index) mk (Value.ref b :: argsL).toArray X₁ hg hsize hdg hW (X₁.named hnamed) (hpre vm₁ X₁.warmed)
  exact ⟨v, vm₁, B, X₁.warmed, X', hpost, fun target h => hstep₁ _ fun acts => by rw [doInvoke_state]; exact hsteps.trans h⟩
abbrev vx_CVW (R : Room) (s : State) (args : Array Value) (own C : String) (index : Nat) (y : MethodName) (bytes : ByteArray) (maxL : Nat) (ret : Option FieldType) (hh : List (Nat × Nat × Nat × Nat)) (ws : List Cond) (rm : Room) (mc ms n : Nat) : Prop :=
  (rm.cells = mc ∧ rm.slots = ms ∧ rm.frames + 1 ≤ R.frames ∧ 8 + (maxL + 11) + rm.locals ≤ R.locals ∧ (∀ w ∈ ws, ∀ (a' : Array Value) (U : State), s.WarmedH U.vm → w.before a' U = true) ∧ Cond.codeWith y bytes maxL ret hh ∈ ws) ∧
  (Cond.codeWith y bytes maxL ret hh).before args s = true ∧ (Cond.initialized y.cls).before args s = true ∧ (y.cls ≠ "java/lang/invoke/MethodHandle" ∧ y.cls ≠ "java/lang/invoke/VarHandle") ∧
  (∀ sig, parseMethodDescriptor y.desc = some sig → n = sig.parameters.length) ∧ (Cond.methodLink own index y).before args s = true ∧ (Cond.instanceMethod y).before args s = true ∧ (Cond.selects C y y).before args s = true
theorem vx_cwVW {own C : String} {index maxL mc ms : Nat} {y : MethodName} {bytes : ByteArray} {ret : Option FieldType} {hh : List (Nat × Nat × Nat × Nat)} {Ts ws ws' : List Cond} {rm : Room} (n : Nat) (ht : ∀ w ∈ Ts, w.before args s = true) (hT : GoodIn Ts (wsV own index C y ws)) (hw : ws = Cond.codeWith y bytes maxL ret hh :: ws') (hrc : rm.cells = mc) (hrs : rm.slots = ms)
    (hd : y.cls = C ∧ y.cls ≠ "java/lang/invoke/MethodHandle" ∧ y.cls ≠ "java/lang/invoke/VarHandle" ∧ (parseMethodDescriptor y.desc).map (fun d => d.parameters.length) = some n) (hR : rm.frames + 1 ≤ R.frames ∧ 8 + (maxL + 11) + rm.locals ≤ R.locals) :
    vx_CVW R s args own C index y bytes maxL ret hh ws rm mc ms n := by
  obtain ⟨hC, hd⟩ := hd
  subst hC
  have ok : ∀ w ∈ wsV own index y.cls y ws, w.before args s = true := fun w h => ht w (hT w h).1
  have hG : GoodIn Ts ws := fun w h => hT w (by unfold wsV; exact List.mem_append_right _ h)
  have hc : Cond.codeWith y bytes maxL ret hh ∈ ws := by rw [hw]; exact List.mem_cons_self
  refine ⟨⟨hrc, hrs, hR.1, hR.2, pay_in ht hG, hc⟩, ht _ (hG _ hc).1, ok _ (by simp [wsV]), ⟨hd.1, hd.2.1⟩, fun sig h => ?_, ok _ (by simp [wsV]), ok _ (by simp [wsV]), ok _ (by simp [wsV])⟩
  have h2 := hd.2.2
  rw [h] at h2
  exact (Option.some.inj h2).symm
theorem vx_runVW {y : MethodName} {bytes cc : ByteArray} {maxL nL mc ms n index : Nat} {ret : Option FieldType} {hh : List (Nat × Nat × Nat × Nat)} {ws : List Cond} {rm : Room} {Pc : Array Value → State → Prop} {Qc : Array Value → State → Outcome → State → Prop} {free : Addr → Prop} {Ts : List Cond} {own C : String} {b : Addr} {As rest : List Value} {g : JFrame}
    (S : CallFix p m c cc nL s args Ts own) (hM : Met l y ws rm Pc Qc mc ms free) (cw : vx_CVW R s args own C index y bytes maxL ret hh ws rm mc ms n) (hp : PreV s H C b Pc As)
    (hg : g.method = m) (hn : As.length = n) (hsize : g.locals.size = nL) (hstack : g.stack = As.reverse ++ .ref b :: rest) (hW : 2 * g.monitorRoom + (rest.map fun v => v.category).sum ≤ 8) (hdg : decode cc g.pc = .ok (.invokevirtual index, 3)) (hf : cells + mc ≤ R.cells ∧ slots + ms ≤ R.slots) :
    va_Run p l e R s m args below meth c H locs cells slots mc ms g rest (Qc (Value.ref b :: As).toArray) free := by
  obtain ⟨⟨hrc, hrs, hfr, hlo, hws, hcw⟩, hcode, hini, hy, hlen, hl, hin, hse⟩ := cw
  have hK : Back l R p e below s args y 3 8 (PreOf R mc ms Pc) (PostOf Qc mc ms free) := va_backW (hh := hh) (bytes := bytes) (maxL := maxL) (ret := ret) hM hp.1 hrc hrs hfr hlo hws hcw (fun a' U hW => word_at hW (Or.inl (by first | rfl | simp [Cond.onTables, Cond.keeps, Cond.steady])) hini)
  obtain ⟨hx, hb, hml, ho, -⟩ := S
  obtain ⟨-, ⟨cellB, hcB, hoB, hclB⟩, hPc⟩ := hp
  intro T hT X
  obtain ⟨v, vm₁, ⟨U', l2, c2, s2⟩, hW₁, X', ⟨g', mk, t, L, e1, e2, hq, h1, hL, h2, h3⟩, st⟩ := vx_callVW X hx (C := C) (hh := hh) (bytes := bytes) (maxL := maxL) (ret := ret) ho hl hin hse hcode hy hK (by rw [hT]; exact hcB) hoB hclB hg (hsize.trans hml.symm) (argsL := As) (rest := rest) (fun sig h => hn.trans (hlen sig h)) hstack hW (by rw [hb]; exact hdg)
    (fun vm₁ hW₁ => ⟨hf.1, hf.2, hPc (T.setVm vm₁) hT hW₁⟩)
  dsimp only [Pt.U, Pt.locs, Pt.cells, Pt.slots] at X' e1 e2 h1 h2 h3 st
  subst h1; subst h2; subst h3
  exact ⟨v, (T.setVm vm₁).calling g' mk (Value.ref b :: As).toArray, t, U', L, hT, X', hL, e1, e2, hq, st⟩
section
variable {y : MethodName} {bytes cc : ByteArray} {maxL nL mc ms n index : Nat} {ret : Option FieldType} {ws : List Cond} {rm : Room} {Pc : Array Value → State → Prop} {Qc : Array Value → State → Outcome → State → Prop} {XC : String → State → State → Prop} {free : Addr → Prop} {Ts : List Cond} {own C : String} {b : Addr} {As rest : List Value} {g : JFrame}
theorem vx_runVX {hh : List (Nat × Nat × Nat × Nat)} (S : CallFix p m c cc nL s args Ts own) (hM : vx_Met l y ws rm Pc Qc XC mc ms free) (cw : vx_CVW R s args own C index y bytes maxL ret hh ws rm mc ms n) (hp : PreV s H C b Pc As)
    (hg : g.method = m) (hn : As.length = n) (hsize : g.locals.size = nL) (hstack : g.stack = As.reverse ++ .ref b :: rest) (hW : 2 * g.monitorRoom + (rest.map fun v => v.category).sum ≤ 8) (hdg : decode cc g.pc = .ok (.invokevirtual index, 3)) (hf : cells + mc ≤ R.cells ∧ slots + ms ≤ R.slots) :
    vx_Run p l e R s m args below meth c H locs cells slots mc ms g rest (Qc (Value.ref b :: As).toArray) XC free := by
  obtain ⟨⟨hrc, hrs, hfr, hlo, hws, hcw⟩, hcode, hini, hy, hlen, hl, hin, hse⟩ := cw
  have hK : vx_Back l R p e below s args y 3 8 (PreOf R mc ms Pc) (PostOf Qc mc ms free) (vx_Post XC mc ms free) := vx_backW (hh := hh) (bytes := bytes) (maxL := maxL) (ret := ret) hM hp.1 hrc hrs hfr hlo hws hcw (fun a' U hW => word_at hW (Or.inl (by first | rfl | simp [Cond.onTables, Cond.keeps, Cond.steady])) hini)
  obtain ⟨hx, hb, hml, ho, -⟩ := S
  obtain ⟨-, ⟨cellB, hcB, hoB, hclB⟩, hPc⟩ := hp
  intro T hT X
  rcases vx_callVX X hx (C := C) (hh := hh) (bytes := bytes) (maxL := maxL) (ret := ret) ho hl hin hse hcode hy hK (by rw [hT]; exact hcB) hoB hclB hg (hsize.trans hml.symm) (argsL := As) (rest := rest) (fun sig h => hn.trans (hlen sig h)) hstack hW (by rw [hb]; exact hdg)
    (fun vm₁ hW₁ => ⟨hf.1, hf.2, hPc (T.setVm vm₁) hT hW₁⟩) with ⟨v, vm₁, ⟨U', l2, c2, s2⟩, hW₁, X', ⟨g', mk, t, L, e1, e2, hq, h1, hL, h2, h3⟩, st⟩ | ⟨q, vm₁, ⟨U', l2, c2, s2⟩, hW₁, X', ⟨g', mk, t, L, E, ce, e1, e2, hq, hce, hcv, hcl, h1, hL, h2, h3⟩, st⟩
  · dsimp only [Pt.U, Pt.locs, Pt.cells, Pt.slots] at X' e1 e2 h1 h2 h3 st
    subst h1; subst h2; subst h3
    exact Or.inl ⟨v, (T.setVm vm₁).calling g' mk (Value.ref b :: As).toArray, t, U', L, hT, X', hL, e1, e2, hq, st⟩
  · dsimp only [Pt.U, Pt.locs, Pt.cells, Pt.slots] at X' e1 e2 h1 h2 h3 st hcl
    subst h1; subst h2; subst h3
    exact Or.inr ⟨q, (T.setVm vm₁).calling g' mk (Value.ref b :: As).toArray, t, U', L, E, ce, hT, X', hL, e1, e2, hq, hce, hcv, vx_cls hW₁ hcl, st⟩
theorem vx_runSX {hh : List (Nat × Nat × Nat × Nat)} (S : CallFix p m c cc nL s args Ts own) (hM : vx_Met l y ws rm Pc Qc XC mc ms free) (cw : vx_CSW R s args own index y bytes maxL ret hh ws rm mc ms n) (hp : PreS s H Pc As)
    (hg : g.method = m) (hn : As.length = n) (hsize : g.locals.size = nL) (hstack : g.stack = As.reverse ++ rest) (hW : 2 * g.monitorRoom + (rest.map fun v => v.category).sum ≤ 8) (hdg : decode cc g.pc = .ok (.invokestatic index, 3)) (hf : cells + mc ≤ R.cells ∧ slots + ms ≤ R.slots) :
    vx_Run p l e R s m args below meth c H locs cells slots mc ms g rest (Qc As.toArray) XC free := by
  obtain ⟨⟨hrc, hrs, hfr, hlo, hws, hcw⟩, hcode, hini, hy, hlen, hl, hstt⟩ := cw
  have hK : vx_Back l R p e below s args y 3 8 (PreOf R mc ms Pc) (PostOf Qc mc ms free) (vx_Post XC mc ms free) := vx_backW (hh := hh) (bytes := bytes) (maxL := maxL) (ret := ret) hM hp.1 hrc hrs hfr hlo hws hcw (fun a' U hW => word_at hW (Or.inl (by first | rfl | simp [Cond.onTables, Cond.keeps, Cond.steady])) hini)
  obtain ⟨hx, hb, hml, ho, -⟩ := S
  intro T hT X
  rcases vx_callSX X hx (hh := hh) (bytes := bytes) (maxL := maxL) (ret := ret) ho hl hstt hini hcode hy hK hg (hsize.trans hml.symm) (argsL := As) (rest := rest) (fun sig h => hn.trans (hlen sig h)) hstack hW (by rw [hb]; exact hdg)
    (fun vm₁ hW₁ => ⟨hf.1, hf.2, hp.2 (T.setVm vm₁) hT hW₁⟩) with ⟨v, vm₁, ⟨U', l2, c2, s2⟩, hW₁, X', ⟨g', mk, t, L, e1, e2, hq, h1, hL, h2, h3⟩, st⟩ | ⟨q, vm₁, ⟨U', l2, c2, s2⟩, hW₁, X', ⟨g', mk, t, L, E, ce, e1, e2, hq, hce, hcv, hcl, h1, hL, h2, h3⟩, st⟩
  · dsimp only [Pt.U, Pt.locs, Pt.cells, Pt.slots] at X' e1 e2 h1 h2 h3 st
    subst h1; subst h2; subst h3
    exact Or.inl ⟨v, (T.setVm vm₁).calling g' mk As.toArray, t, U', L, hT, X', hL, e1, e2, hq, st⟩
  · dsimp only [Pt.U, Pt.locs, Pt.cells, Pt.slots] at X' e1 e2 h1 h2 h3 st hcl
    subst h1; subst h2; subst h3
    exact Or.inr ⟨q, (T.setVm vm₁).calling g' mk As.toArray, t, U', L, E, ce, hT, X', hL, e1, e2, hq, hce, hcv, vx_cls hW₁ hcl, st⟩
end
end VXH
theorem vx_ofWH {l : Launch} {y : MethodName} {ws ws' : List Cond} {rm : Room} {Pc : Array Value → State → Prop} {Qc : Array Value → State → Outcome → State → Prop} {XC : String → State → State → Prop} {mc ms : Nat} {free : Addr → Prop} {cc : ByteArray} {maxL : Nat} {ret : Option FieldType} {hh : List (Nat × Nat × Nat × Nat)}
    (hy : plainName y.cls = true) (hw : ws = Cond.codeWith y cc maxL ret hh :: ws')
    (body : ∀ p e s m args below meth c s₁, BodyLoose p l y (headSpec ws rm) cc maxL ret e s m args below meth c s₁ → c.maxLocals = maxL → Pc args s →
      W p l e (headSpec ws rm).room s m args below meth c s.heap [] 0 0 (vx_MQ below Qc XC args s mc ms free) (entryFrame m args maxL)) : vx_Met l y ws rm Pc Qc XC mc ms free := by
  refine MetFree.of_bodyS (code := cc) (maxLocals := maxL) (ret := ret) hy ?_ ?_
  · intro args s m h hn
    obtain ⟨m9, meth, c, hn9, h1, h2, h3, h4, -, h5, h6, -⟩ := Cond.codeWith_spec (atoms_spec (ws := ws) h _ (by rw [hw]; exact List.mem_cons_self))
    cases hn.symm.trans hn9
    exact ⟨meth, c, h1, h2, h3, h4, h5, h6⟩
  · intro p e s m args below meth c s₁ B hml hP _
    have hh0 : s₁.heap = s.heap := by rw [B.state]; rfl
    obtain ⟨t, a1, o, b1, b2, b3⟩ := body p e s m args below meth c s₁ B hml hP s₁ hh0 (Stand.of_body B)
    exact ⟨t, o, a1, b1, b2, b3⟩
/-! ===== END ===== -/
end
section
/-! ===== BEGIN printed: names, fields, word lists, decode rows ===== -/
def RX0 : String := "TunnelLamps$Command"
def TX0 : u_T := fun k => match k with
  | 0 => ("TunnelLamps$Command", "action", "I", false)
  | 1 => ("TunnelLamps$Command", "a", "I", false)
  | 2 => ("TunnelLamps$Command", "b", "I", false)
  | 3 => ("TunnelLamps$Command", "c", "I", false)
  | _ => ("TunnelLamps$Command", "d", "I", false)
def tyX0 : Nat → FieldType := fun k => match k with
  | 0 => .int
  | 1 => .int
  | 2 => .int
  | 3 => .int
  | _ => .int
abbrev wsX00 : List Cond := u_ws RX0 TX0 5
theorem nmX0 : ∀ a, a < 5 → ∀ b, b < 5 → a ≠ b → (TX0 a).2.1 ≠ (TX0 b).2.1 := by decide +kernel
theorem tyX0_ok : ∀ k, k < 5 → parseFieldDescriptor (TX0 k).2.2.1 = some (tyX0 k) := by decide +kernel
abbrev cX0_init : ByteArray := prog_2_method_1_code
def yX0_init : MethodName := ⟨RX0, "<init>", "()V"⟩
abbrev cX0_become : ByteArray := prog_2_method_2_code
def yX0_become : MethodName := ⟨RX0, "become", "(IIIII)V"⟩
abbrev cX0_putNumber : ByteArray := prog_2_method_3_code
def yX0_putNumber : MethodName := ⟨RX0, "putNumber", "(II)V"⟩
abbrev cX0_isTest : ByteArray := prog_2_method_4_code
def yX0_isTest : MethodName := ⟨RX0, "isTest", "()Z"⟩
abbrev cX0_readGroup : ByteArray := prog_2_method_5_code
def yX0_readGroup : MethodName := ⟨RX0, "readGroup", "(I)Z"⟩
abbrev cX0_readTurn : ByteArray := prog_2_method_6_code
def yX0_readTurn : MethodName := ⟨RX0, "readTurn", "(I)V"⟩
def RX1 : String := "TunnelLamps$Gallery"
def TX1 : u_T := fun k => match k with
  | 0 => ("TunnelLamps$Gallery", "depth", "I", false)
  | _ => ("TunnelLamps$Gallery", "strokes", "I", false)
def tyX1 : Nat → FieldType := fun k => match k with
  | 0 => .int
  | _ => .int
abbrev wsX10 : List Cond := u_ws RX1 TX1 2
theorem nmX1 : ∀ a, a < 2 → ∀ b, b < 2 → a ≠ b → (TX1 a).2.1 ≠ (TX1 b).2.1 := by decide +kernel
theorem tyX1_ok : ∀ k, k < 2 → parseFieldDescriptor (TX1 k).2.2.1 = some (tyX1 k) := by decide +kernel
abbrev cX1_init : ByteArray := prog_3_method_1_code
def yX1_init : MethodName := ⟨RX1, "<init>", "()V"⟩
abbrev cX1_copyFrom : ByteArray := prog_3_method_2_code
def yX1_copyFrom : MethodName := ⟨RX1, "copyFrom", "(LTunnelLamps$Gallery;)V"⟩
abbrev cX1_strike : ByteArray := prog_3_method_3_code
def yX1_strike : MethodName := ⟨RX1, "strike", "(II)I"⟩
def RX2 : String := "TunnelLamps$History"
def TX2 : u_T := fun k => match k with
  | 0 => ("TunnelLamps$History", "states", "[LTunnelLamps$Mine;", true)
  | 1 => ("TunnelLamps$History", "oldest", "I", false)
  | _ => ("TunnelLamps$History", "count", "I", false)
def tyX2 : Nat → FieldType := fun k => match k with
  | 0 => .array (.object "TunnelLamps$Mine")
  | 1 => .int
  | _ => .int
abbrev wsX20 : List Cond := u_ws RX2 TX2 3
theorem nmX2 : ∀ a, a < 3 → ∀ b, b < 3 → a ≠ b → (TX2 a).2.1 ≠ (TX2 b).2.1 := by decide +kernel
theorem tyX2_ok : ∀ k, k < 3 → parseFieldDescriptor (TX2 k).2.2.1 = some (tyX2 k) := by decide +kernel
abbrev cX2_init : ByteArray := prog_4_method_1_code
def yX2_init : MethodName := ⟨RX2, "<init>", "()V"⟩
abbrev cX2_remember : ByteArray := prog_4_method_2_code
def yX2_remember : MethodName := ⟨RX2, "remember", "(LTunnelLamps$Mine;)V"⟩
abbrev cX2_takeBack : ByteArray := prog_4_method_3_code
def yX2_takeBack : MethodName := ⟨RX2, "takeBack", "(LTunnelLamps$Mine;)V"⟩
abbrev cX2_forgetAll : ByteArray := prog_4_method_4_code
def yX2_forgetAll : MethodName := ⟨RX2, "forgetAll", "()V"⟩
def RX3 : String := "TunnelLamps$Lad"
def TX3 : u_T := fun k => match k with
  | 0 => ("TunnelLamps$Lad", "orders", "[LTunnelLamps$Order;", true)
  | 1 => ("TunnelLamps$Lad", "orderCount", "I", false)
  | 2 => ("TunnelLamps$Lad", "gallery", "I", false)
  | 3 => ("TunnelLamps$Lad", "cell", "I", false)
  | 4 => ("TunnelLamps$Lad", "lamp", "I", false)
  | 5 => ("TunnelLamps$Lad", "oil", "I", false)
  | _ => ("TunnelLamps$Lad", "hasFetched", "Z", false)
def tyX3 : Nat → FieldType := fun k => match k with
  | 0 => .array (.object "TunnelLamps$Order")
  | 1 => .int
  | 2 => .int
  | 3 => .int
  | 4 => .int
  | 5 => .int
  | _ => .boolean
abbrev wsX30 : List Cond := u_ws RX3 TX3 7
theorem nmX3 : ∀ a, a < 7 → ∀ b, b < 7 → a ≠ b → (TX3 a).2.1 ≠ (TX3 b).2.1 := by decide +kernel
theorem tyX3_ok : ∀ k, k < 7 → parseFieldDescriptor (TX3 k).2.2.1 = some (tyX3 k) := by decide +kernel
abbrev cX3_init : ByteArray := prog_5_method_1_code
def yX3_init : MethodName := ⟨RX3, "<init>", "()V"⟩
abbrev cX3_copyFrom : ByteArray := prog_5_method_2_code
def yX3_copyFrom : MethodName := ⟨RX3, "copyFrom", "(LTunnelLamps$Lad;)V"⟩
abbrev cX3_hasOrder : ByteArray := prog_5_method_3_code
def yX3_hasOrder : MethodName := ⟨RX3, "hasOrder", "(I)Z"⟩
abbrev cX3_hasRoomForOrder : ByteArray := prog_5_method_4_code
def yX3_hasRoomForOrder : MethodName := ⟨RX3, "hasRoomForOrder", "()Z"⟩
abbrev cX3_addHang : ByteArray := prog_5_method_5_code
def yX3_addHang : MethodName := ⟨RX3, "addHang", "(III)I"⟩
abbrev cX3_addFill : ByteArray := prog_5_method_6_code
def yX3_addFill : MethodName := ⟨RX3, "addFill", "(II)I"⟩
abbrev cX3_addOrder : ByteArray := prog_5_method_7_code
def yX3_addOrder : MethodName := ⟨RX3, "addOrder", "(IIIII)I"⟩
abbrev cX3_removeOrder : ByteArray := prog_5_method_8_code
def yX3_removeOrder : MethodName := ⟨RX3, "removeOrder", "(I)I"⟩
abbrev cX3_handsAreFree : ByteArray := prog_5_method_9_code
def yX3_handsAreFree : MethodName := ⟨RX3, "handsAreFree", "()Z"⟩
abbrev cX3_isAt : ByteArray := prog_5_method_10_code
def yX3_isAt : MethodName := ⟨RX3, "isAt", "(II)Z"⟩
abbrev cX3_stepTowards : ByteArray := prog_5_method_11_code
def yX3_stepTowards : MethodName := ⟨RX3, "stepTowards", "(II)V"⟩
def RX4 : String := "TunnelLamps$Lamp"
def TX4 : u_T := fun k => match k with
  | 0 => ("TunnelLamps$Lamp", "gallery", "I", false)
  | 1 => ("TunnelLamps$Lamp", "cell", "I", false)
  | 2 => ("TunnelLamps$Lamp", "reach", "I", false)
  | _ => ("TunnelLamps$Lamp", "oil", "I", false)
def tyX4 : Nat → FieldType := fun k => match k with
  | 0 => .int
  | 1 => .int
  | 2 => .int
  | _ => .int
abbrev wsX40 : List Cond := u_ws RX4 TX4 4
theorem nmX4 : ∀ a, a < 4 → ∀ b, b < 4 → a ≠ b → (TX4 a).2.1 ≠ (TX4 b).2.1 := by decide +kernel
theorem tyX4_ok : ∀ k, k < 4 → parseFieldDescriptor (TX4 k).2.2.1 = some (tyX4 k) := by decide +kernel
abbrev cX4_init : ByteArray := prog_6_method_1_code
def yX4_init : MethodName := ⟨RX4, "<init>", "()V"⟩
abbrev cX4_copyFrom : ByteArray := prog_6_method_2_code
def yX4_copyFrom : MethodName := ⟨RX4, "copyFrom", "(LTunnelLamps$Lamp;)V"⟩
abbrev cX4_lights : ByteArray := prog_6_method_3_code
def yX4_lights : MethodName := ⟨RX4, "lights", "(II)Z"⟩
abbrev cX4_burnsIn : ByteArray := prog_6_method_4_code
def yX4_burnsIn : MethodName := ⟨RX4, "burnsIn", "(I)Z"⟩
def RX5 : String := "TunnelLamps$Mine"
def TX5 : u_T := fun k => match k with
  | 0 => ("TunnelLamps$Mine", "galleries", "[LTunnelLamps$Gallery;", true)
  | 1 => ("TunnelLamps$Mine", "miners", "[LTunnelLamps$Miner;", true)
  | 2 => ("TunnelLamps$Mine", "lamps", "[LTunnelLamps$Lamp;", true)
  | 3 => ("TunnelLamps$Mine", "lad", "LTunnelLamps$Lad;", true)
  | 4 => ("TunnelLamps$Mine", "galleryCount", "I", false)
  | 5 => ("TunnelLamps$Mine", "minerCount", "I", false)
  | 6 => ("TunnelLamps$Mine", "lampCount", "I", false)
  | 7 => ("TunnelLamps$Mine", "time", "I", false)
  | 8 => ("TunnelLamps$Mine", "store", "I", false)
  | 9 => ("TunnelLamps$Mine", "burnt", "I", false)
  | 10 => ("TunnelLamps$Mine", "spilled", "I", false)
  | 11 => ("TunnelLamps$Mine", "came", "I", false)
  | 12 => ("TunnelLamps$Mine", "darkHours", "I", false)
  | 13 => ("TunnelLamps$Mine", "dug", "I", false)
  | 14 => ("TunnelLamps$Mine", "stepsAnHour", "I", false)
  | _ => ("TunnelLamps$Mine", "ladLooksAround", "I", false)
def tyX5 : Nat → FieldType := fun k => match k with
  | 0 => .array (.object "TunnelLamps$Gallery")
  | 1 => .array (.object "TunnelLamps$Miner")
  | 2 => .array (.object "TunnelLamps$Lamp")
  | 3 => .object "TunnelLamps$Lad"
  | 4 => .int
  | 5 => .int
  | 6 => .int
  | 7 => .int
  | 8 => .int
  | 9 => .int
  | 10 => .int
  | 11 => .int
  | 12 => .int
  | 13 => .int
  | 14 => .int
  | _ => .int
abbrev wsX50 : List Cond := u_ws RX5 TX5 16
theorem nmX5 : ∀ a, a < 16 → ∀ b, b < 16 → a ≠ b → (TX5 a).2.1 ≠ (TX5 b).2.1 := by decide +kernel
theorem tyX5_ok : ∀ k, k < 16 → parseFieldDescriptor (TX5 k).2.2.1 = some (tyX5 k) := by decide +kernel
abbrev cX5_init : ByteArray := prog_7_method_1_code
def yX5_init : MethodName := ⟨RX5, "<init>", "()V"⟩
abbrev cX5_copyFrom : ByteArray := prog_7_method_2_code
def yX5_copyFrom : MethodName := ⟨RX5, "copyFrom", "(LTunnelLamps$Mine;)V"⟩
abbrev cX5_hasGallery : ByteArray := prog_7_method_3_code
def yX5_hasGallery : MethodName := ⟨RX5, "hasGallery", "(I)Z"⟩
abbrev cX5_hasCell : ByteArray := prog_7_method_4_code
def yX5_hasCell : MethodName := ⟨RX5, "hasCell", "(II)Z"⟩
abbrev cX5_hasMiner : ByteArray := prog_7_method_5_code
def yX5_hasMiner : MethodName := ⟨RX5, "hasMiner", "(I)Z"⟩
abbrev cX5_hasLamp : ByteArray := prog_7_method_6_code
def yX5_hasLamp : MethodName := ⟨RX5, "hasLamp", "(I)Z"⟩
abbrev cX5_oilInLamps : ByteArray := prog_7_method_7_code
def yX5_oilInLamps : MethodName := ⟨RX5, "oilInLamps", "()I"⟩
abbrev cX5_minersIn : ByteArray := prog_7_method_8_code
def yX5_minersIn : MethodName := ⟨RX5, "minersIn", "(I)I"⟩
abbrev cX5_lampsIn : ByteArray := prog_7_method_9_code
def yX5_lampsIn : MethodName := ⟨RX5, "lampsIn", "(I)I"⟩
abbrev cX5_isLit : ByteArray := prog_7_method_10_code
def yX5_isLit : MethodName := ⟨RX5, "isLit", "(II)Z"⟩
abbrev cX5_litCellByCell : ByteArray := prog_7_method_11_code
def yX5_litCellByCell : MethodName := ⟨RX5, "litCellByCell", "(I)I"⟩
abbrev cX5_litBySpans : ByteArray := prog_7_method_12_code
def yX5_litBySpans : MethodName := ⟨RX5, "litBySpans", "(I)I"⟩
abbrev cX5_attempt : ByteArray := prog_7_method_13_code
def yX5_attempt : MethodName := ⟨RX5, "attempt", "(LTunnelLamps$Command;)Z"⟩
abbrev cX5_refusal : ByteArray := prog_7_method_14_code
def yX5_refusal : MethodName := ⟨RX5, "refusal", "(LTunnelLamps$Command;)I"⟩
abbrev cX5_isSetting : ByteArray := prog_7_method_15_code
def yX5_isSetting : MethodName := ⟨RX5, "isSetting", "(II)Z"⟩
abbrev cX5_perform : ByteArray := prog_7_method_16_code
def yX5_perform : MethodName := ⟨RX5, "perform", "(LTunnelLamps$Command;)I"⟩
abbrev cX5_addGallery : ByteArray := prog_7_method_17_code
def yX5_addGallery : MethodName := ⟨RX5, "addGallery", "(I)I"⟩
abbrev cX5_addMiner : ByteArray := prog_7_method_18_code
def yX5_addMiner : MethodName := ⟨RX5, "addMiner", "(II)I"⟩
abbrev cX5_sendMiner : ByteArray := prog_7_method_19_code
def yX5_sendMiner : MethodName := ⟨RX5, "sendMiner", "(II)I"⟩
abbrev cX5_addLamp : ByteArray := prog_7_method_20_code
def yX5_addLamp : MethodName := ⟨RX5, "addLamp", "(IIII)I"⟩
abbrev cX5_bringOil : ByteArray := prog_7_method_21_code
def yX5_bringOil : MethodName := ⟨RX5, "bringOil", "(I)I"⟩
abbrev cX5_changeSetting : ByteArray := prog_7_method_22_code
def yX5_changeSetting : MethodName := ⟨RX5, "changeSetting", "(II)I"⟩
abbrev cX5_passes : ByteArray := prog_7_method_23_code
def yX5_passes : MethodName := ⟨RX5, "passes", "(LTunnelLamps$Command;)Z"⟩
abbrev cX5_letHoursGo : ByteArray := prog_7_method_24_code
def yX5_letHoursGo : MethodName := ⟨RX5, "letHoursGo", "(I)I"⟩
abbrev cX5_minersWork : ByteArray := prog_7_method_25_code
def yX5_minersWork : MethodName := ⟨RX5, "minersWork", "()V"⟩
abbrev cX5_lampsBurn : ByteArray := prog_7_method_26_code
def yX5_lampsBurn : MethodName := ⟨RX5, "lampsBurn", "()V"⟩
abbrev cX5_ladWorks : ByteArray := prog_7_method_27_code
def yX5_ladWorks : MethodName := ⟨RX5, "ladWorks", "(I)I"⟩
abbrev cX5_doesWhatNeedsNoStep : ByteArray := prog_7_method_28_code
def yX5_doesWhatNeedsNoStep : MethodName := ⟨RX5, "doesWhatNeedsNoStep", "()Z"⟩
abbrev cX5_takesLamp : ByteArray := prog_7_method_29_code
def yX5_takesLamp : MethodName := ⟨RX5, "takesLamp", "(LTunnelLamps$Order;LTunnelLamps$Lamp;)Z"⟩
abbrev cX5_hangsLamp : ByteArray := prog_7_method_30_code
def yX5_hangsLamp : MethodName := ⟨RX5, "hangsLamp", "(LTunnelLamps$Order;LTunnelLamps$Lamp;)Z"⟩
abbrev cX5_fetchesOil : ByteArray := prog_7_method_31_code
def yX5_fetchesOil : MethodName := ⟨RX5, "fetchesOil", "(LTunnelLamps$Order;)Z"⟩
abbrev cX5_poursOil : ByteArray := prog_7_method_32_code
def yX5_poursOil : MethodName := ⟨RX5, "poursOil", "(LTunnelLamps$Lamp;)Z"⟩
abbrev cX5_makesStep : ByteArray := prog_7_method_33_code
def yX5_makesStep : MethodName := ⟨RX5, "makesStep", "()V"⟩
abbrev cX5_ladSeesTheDark : ByteArray := prog_7_method_34_code
def yX5_ladSeesTheDark : MethodName := ⟨RX5, "ladSeesTheDark", "()V"⟩
abbrev cX5_fullestLampBelow : ByteArray := prog_7_method_35_code
def yX5_fullestLampBelow : MethodName := ⟨RX5, "fullestLampBelow", "(II)I"⟩
def RX6 : String := "TunnelLamps$MineText"
def TX6 : u_T := fun k => match k with
  | 0 => ("TunnelLamps$MineText", "characters", "[C", true)
  | 1 => ("TunnelLamps$MineText", "length", "I", false)
  | _ => ("TunnelLamps$MineText", "position", "I", false)
def tyX6 : Nat → FieldType := fun k => match k with
  | 0 => .array .char
  | 1 => .int
  | _ => .int
abbrev wsX60 : List Cond := u_ws RX6 TX6 3
theorem nmX6 : ∀ a, a < 3 → ∀ b, b < 3 → a ≠ b → (TX6 a).2.1 ≠ (TX6 b).2.1 := by decide +kernel
theorem tyX6_ok : ∀ k, k < 3 → parseFieldDescriptor (TX6 k).2.2.1 = some (tyX6 k) := by decide +kernel
abbrev cX6_init : ByteArray := prog_8_method_1_code
def yX6_init : MethodName := ⟨RX6, "<init>", "()V"⟩
abbrev cX6_isFull : ByteArray := prog_8_method_2_code
def yX6_isFull : MethodName := ⟨RX6, "isFull", "()Z"⟩
abbrev cX6_add : ByteArray := prog_8_method_3_code
def yX6_add : MethodName := ⟨RX6, "add", "(C)I"⟩
abbrev cX6_empty : ByteArray := prog_8_method_4_code
def yX6_empty : MethodName := ⟨RX6, "empty", "()I"⟩
abbrev cX6_startCommands : ByteArray := prog_8_method_5_code
def yX6_startCommands : MethodName := ⟨RX6, "startCommands", "()V"⟩
abbrev cX6_findError : ByteArray := prog_8_method_6_code
def yX6_findError : MethodName := ⟨RX6, "findError", "(LTunnelLamps$Command;)I"⟩
abbrev cX6_readCommand : ByteArray := prog_8_method_7_code
def yX6_readCommand : MethodName := ⟨RX6, "readCommand", "(LTunnelLamps$Command;)Z"⟩
abbrev cX6_actionOf : ByteArray := prog_8_method_8_code
def yX6_actionOf : MethodName := ⟨RX6, "actionOf", "(I)I"⟩
abbrev cX6_readNumbers : ByteArray := prog_8_method_9_code
def yX6_readNumbers : MethodName := ⟨RX6, "readNumbers", "(LTunnelLamps$Command;)Z"⟩
abbrev cX6_readGallery : ByteArray := prog_8_method_10_code
def yX6_readGallery : MethodName := ⟨RX6, "readGallery", "(LTunnelLamps$Command;I)Z"⟩
abbrev cX6_readCell : ByteArray := prog_8_method_11_code
def yX6_readCell : MethodName := ⟨RX6, "readCell", "(LTunnelLamps$Command;I)Z"⟩
abbrev cX6_readLamp : ByteArray := prog_8_method_12_code
def yX6_readLamp : MethodName := ⟨RX6, "readLamp", "(LTunnelLamps$Command;)Z"⟩
abbrev cX6_readNumber : ByteArray := prog_8_method_13_code
def yX6_readNumber : MethodName := ⟨RX6, "readNumber", "(LTunnelLamps$Command;IIII)Z"⟩
def RX7 : String := "TunnelLamps$Miner"
def TX7 : u_T := fun k => match k with
  | 0 => ("TunnelLamps$Miner", "gallery", "I", false)
  | 1 => ("TunnelLamps$Miner", "pace", "I", false)
  | 2 => ("TunnelLamps$Miner", "strokes", "I", false)
  | _ => ("TunnelLamps$Miner", "darkHours", "I", false)
def tyX7 : Nat → FieldType := fun k => match k with
  | 0 => .int
  | 1 => .int
  | 2 => .int
  | _ => .int
abbrev wsX70 : List Cond := u_ws RX7 TX7 4
theorem nmX7 : ∀ a, a < 4 → ∀ b, b < 4 → a ≠ b → (TX7 a).2.1 ≠ (TX7 b).2.1 := by decide +kernel
theorem tyX7_ok : ∀ k, k < 4 → parseFieldDescriptor (TX7 k).2.2.1 = some (tyX7 k) := by decide +kernel
abbrev cX7_init : ByteArray := prog_9_method_1_code
def yX7_init : MethodName := ⟨RX7, "<init>", "()V"⟩
abbrev cX7_copyFrom : ByteArray := prog_9_method_2_code
def yX7_copyFrom : MethodName := ⟨RX7, "copyFrom", "(LTunnelLamps$Miner;)V"⟩
def RX8 : String := "TunnelLamps$Order"
def TX8 : u_T := fun k => match k with
  | 0 => ("TunnelLamps$Order", "kind", "I", false)
  | 1 => ("TunnelLamps$Order", "lamp", "I", false)
  | 2 => ("TunnelLamps$Order", "gallery", "I", false)
  | 3 => ("TunnelLamps$Order", "cell", "I", false)
  | _ => ("TunnelLamps$Order", "amount", "I", false)
def tyX8 : Nat → FieldType := fun k => match k with
  | 0 => .int
  | 1 => .int
  | 2 => .int
  | 3 => .int
  | _ => .int
abbrev wsX80 : List Cond := u_ws RX8 TX8 5
theorem nmX8 : ∀ a, a < 5 → ∀ b, b < 5 → a ≠ b → (TX8 a).2.1 ≠ (TX8 b).2.1 := by decide +kernel
theorem tyX8_ok : ∀ k, k < 5 → parseFieldDescriptor (TX8 k).2.2.1 = some (tyX8 k) := by decide +kernel
abbrev cX8_init : ByteArray := prog_10_method_1_code
def yX8_init : MethodName := ⟨RX8, "<init>", "()V"⟩
abbrev cX8_copyFrom : ByteArray := prog_10_method_2_code
def yX8_copyFrom : MethodName := ⟨RX8, "copyFrom", "(LTunnelLamps$Order;)V"⟩
def RX9 : String := "TunnelLamps"
def TX9 : u_T := fun k => match k with
  | 0 => ("TunnelLamps", "text", "LTunnelLamps$MineText;", true)
  | 1 => ("TunnelLamps", "command", "LTunnelLamps$Command;", true)
  | 2 => ("TunnelLamps", "mine", "LTunnelLamps$Mine;", true)
  | 3 => ("TunnelLamps", "fresh", "LTunnelLamps$Mine;", true)
  | 4 => ("TunnelLamps", "copy", "LTunnelLamps$Mine;", true)
  | 5 => ("TunnelLamps", "history", "LTunnelLamps$History;", true)
  | 6 => ("TunnelLamps", "slots", "[LTunnelLamps$Mine;", true)
  | _ => ("TunnelLamps", "slotIsUsed", "[Z", true)
def tyX9 : Nat → FieldType := fun k => match k with
  | 0 => .object "TunnelLamps$MineText"
  | 1 => .object "TunnelLamps$Command"
  | 2 => .object "TunnelLamps$Mine"
  | 3 => .object "TunnelLamps$Mine"
  | 4 => .object "TunnelLamps$Mine"
  | 5 => .object "TunnelLamps$History"
  | 6 => .array (.object "TunnelLamps$Mine")
  | _ => .array .boolean
abbrev wsX90 : List Cond := u_ws RX9 TX9 8
theorem nmX9 : ∀ a, a < 8 → ∀ b, b < 8 → a ≠ b → (TX9 a).2.1 ≠ (TX9 b).2.1 := by decide +kernel
theorem tyX9_ok : ∀ k, k < 8 → parseFieldDescriptor (TX9 k).2.2.1 = some (tyX9 k) := by decide +kernel
abbrev cX9_init : ByteArray := prog_1_method_1_code
def yX9_init : MethodName := ⟨RX9, "<init>", "()V"⟩
abbrev cX9_append : ByteArray := prog_1_method_2_code
def yX9_append : MethodName := ⟨RX9, "append", "(I)I"⟩
abbrev cX9_clearText : ByteArray := prog_1_method_3_code
def yX9_clearText : MethodName := ⟨RX9, "clearText", "()I"⟩
abbrev cX9_errorPosition : ByteArray := prog_1_method_4_code
def yX9_errorPosition : MethodName := ⟨RX9, "errorPosition", "()I"⟩
abbrev cX9_load : ByteArray := prog_1_method_5_code
def yX9_load : MethodName := ⟨RX9, "load", "()I"⟩
abbrev cX9_about : ByteArray := prog_1_method_6_code
def yX9_about : MethodName := ⟨RX9, "about", "(I)I"⟩
abbrev cX9_galleryOf : ByteArray := prog_1_method_7_code
def yX9_galleryOf : MethodName := ⟨RX9, "galleryOf", "(II)I"⟩
abbrev cX9_minerOf : ByteArray := prog_1_method_8_code
def yX9_minerOf : MethodName := ⟨RX9, "minerOf", "(II)I"⟩
abbrev cX9_lampOf : ByteArray := prog_1_method_9_code
def yX9_lampOf : MethodName := ⟨RX9, "lampOf", "(II)I"⟩
abbrev cX9_lad : ByteArray := prog_1_method_10_code
def yX9_lad : MethodName := ⟨RX9, "lad", "(I)I"⟩
abbrev cX9_orderOf : ByteArray := prog_1_method_11_code
def yX9_orderOf : MethodName := ⟨RX9, "orderOf", "(II)I"⟩
abbrev cX9_lit : ByteArray := prog_1_method_12_code
def yX9_lit : MethodName := ⟨RX9, "lit", "(II)I"⟩
abbrev cX9_gallery : ByteArray := prog_1_method_13_code
def yX9_gallery : MethodName := ⟨RX9, "gallery", "(I)I"⟩
abbrev cX9_miner : ByteArray := prog_1_method_14_code
def yX9_miner : MethodName := ⟨RX9, "miner", "(II)I"⟩
abbrev cX9_send : ByteArray := prog_1_method_15_code
def yX9_send : MethodName := ⟨RX9, "send", "(II)I"⟩
abbrev cX9_lamp : ByteArray := prog_1_method_16_code
def yX9_lamp : MethodName := ⟨RX9, "lamp", "(IIII)I"⟩
abbrev cX9_store : ByteArray := prog_1_method_17_code
def yX9_store : MethodName := ⟨RX9, "store", "(I)I"⟩
abbrev cX9_hang : ByteArray := prog_1_method_18_code
def yX9_hang : MethodName := ⟨RX9, "hang", "(III)I"⟩
abbrev cX9_fill : ByteArray := prog_1_method_19_code
def yX9_fill : MethodName := ⟨RX9, "fill", "(II)I"⟩
abbrev cX9_drop : ByteArray := prog_1_method_20_code
def yX9_drop : MethodName := ⟨RX9, "drop", "(I)I"⟩
abbrev cX9_set : ByteArray := prog_1_method_21_code
def yX9_set : MethodName := ⟨RX9, "set", "(II)I"⟩
abbrev cX9_hours : ByteArray := prog_1_method_22_code
def yX9_hours : MethodName := ⟨RX9, "hours", "(I)I"⟩
abbrev cX9_undo : ByteArray := prog_1_method_23_code
def yX9_undo : MethodName := ⟨RX9, "undo", "()I"⟩
abbrev cX9_darkIn : ByteArray := prog_1_method_24_code
def yX9_darkIn : MethodName := ⟨RX9, "darkIn", "(I)I"⟩
abbrev cX9_depthIn : ByteArray := prog_1_method_25_code
def yX9_depthIn : MethodName := ⟨RX9, "depthIn", "(II)I"⟩
abbrev cX9_doneIn : ByteArray := prog_1_method_26_code
def yX9_doneIn : MethodName := ⟨RX9, "doneIn", "()I"⟩
abbrev cX9_bestCell : ByteArray := prog_1_method_27_code
def yX9_bestCell : MethodName := ⟨RX9, "bestCell", "(III)I"⟩
abbrev cX9_steps : ByteArray := prog_1_method_28_code
def yX9_steps : MethodName := ⟨RX9, "steps", "(IIII)I"⟩
abbrev cX9_runScript : ByteArray := prog_1_method_29_code
def yX9_runScript : MethodName := ⟨RX9, "runScript", "(IJ)I"⟩
abbrev cX9_simulate : ByteArray := prog_1_method_30_code
def yX9_simulate : MethodName := ⟨RX9, "simulate", "(JI)I"⟩
abbrev cX9_save : ByteArray := prog_1_method_31_code
def yX9_save : MethodName := ⟨RX9, "save", "(I)I"⟩
abbrev cX9_restore : ByteArray := prog_1_method_32_code
def yX9_restore : MethodName := ⟨RX9, "restore", "(I)I"⟩
abbrev cX9_act : ByteArray := prog_1_method_33_code
def yX9_act : MethodName := ⟨RX9, "act", "(IIIII)I"⟩
abbrev cX9_demand : ByteArray := prog_1_method_34_code
def yX9_demand : MethodName := ⟨RX9, "demand", "(ZZZ)V"⟩
abbrev cX9_throwFor : ByteArray := prog_1_method_35_code
def yX9_throwFor : MethodName := ⟨RX9, "throwFor", "(I)V"⟩
abbrev cX9_refusalOf : ByteArray := prog_1_method_36_code
def yX9_refusalOf : MethodName := ⟨RX9, "refusalOf", "(ZZZ)I"⟩
abbrev cX9_isWithin : ByteArray := prog_1_method_37_code
def yX9_isWithin : MethodName := ⟨RX9, "isWithin", "(III)Z"⟩
abbrev cX9_strokesFor : ByteArray := prog_1_method_38_code
def yX9_strokesFor : MethodName := ⟨RX9, "strokesFor", "(II)I"⟩
abbrev cX9_numbersOf : ByteArray := prog_1_method_39_code
def yX9_numbersOf : MethodName := ⟨RX9, "numbersOf", "(I)J"⟩
def RX10 : String := "TunnelLampsModel"
def TX10 : u_T := fun k => match k with
  | 0 => ("TunnelLampsModel", "refusal", "I", false)
  | 1 => ("TunnelLampsModel", "text", "[I", true)
  | 2 => ("TunnelLampsModel", "size", "I", false)
  | 3 => ("TunnelLampsModel", "now", "[I", true)
  | 4 => ("TunnelLampsModel", "trial", "[I", true)
  | 5 => ("TunnelLampsModel", "diary", "[I", true)
  | 6 => ("TunnelLampsModel", "acts", "I", false)
  | 7 => ("TunnelLampsModel", "kept", "[I", true)
  | 8 => ("TunnelLampsModel", "isKept", "[Z", true)
  | 9 => ("TunnelLampsModel", "spot", "I", false)
  | _ => ("TunnelLampsModel", "out", "I", false)
def tyX10 : Nat → FieldType := fun k => match k with
  | 0 => .int
  | 1 => .array .int
  | 2 => .int
  | 3 => .array .int
  | 4 => .array .int
  | 5 => .array .int
  | 6 => .int
  | 7 => .array .int
  | 8 => .array .boolean
  | 9 => .int
  | _ => .int
abbrev wsX100 : List Cond := u_ws RX10 TX10 11
theorem nmX10 : ∀ a, a < 11 → ∀ b, b < 11 → a ≠ b → (TX10 a).2.1 ≠ (TX10 b).2.1 := by decide +kernel
theorem tyX10_ok : ∀ k, k < 11 → parseFieldDescriptor (TX10 k).2.2.1 = some (tyX10 k) := by decide +kernel
abbrev cX10_init : ByteArray := prog_12_method_1_code
def yX10_init : MethodName := ⟨RX10, "<init>", "()V"⟩
abbrev cX10_thrown : ByteArray := prog_12_method_2_code
def yX10_thrown : MethodName := ⟨RX10, "thrown", "()I"⟩
abbrev cX10_refused : ByteArray := prog_12_method_3_code
def yX10_refused : MethodName := ⟨RX10, "refused", "(I)Z"⟩
abbrev cX10_in : ByteArray := prog_12_method_4_code
def yX10_in : MethodName := ⟨RX10, "in", "(JJJ)Z"⟩
abbrev cX10_copyState : ByteArray := prog_12_method_5_code
def yX10_copyState : MethodName := ⟨RX10, "copyState", "([II[II)V"⟩
abbrev cX10_clear : ByteArray := prog_12_method_6_code
def yX10_clear : MethodName := ⟨RX10, "clear", "([I)V"⟩
abbrev cX10_depth : ByteArray := prog_12_method_7_code
def yX10_depth : MethodName := ⟨RX10, "depth", "([II)I"⟩
abbrev cX10_ofMiner : ByteArray := prog_12_method_8_code
def yX10_ofMiner : MethodName := ⟨RX10, "ofMiner", "([III)I"⟩
abbrev cX10_ofLamp : ByteArray := prog_12_method_9_code
def yX10_ofLamp : MethodName := ⟨RX10, "ofLamp", "([III)I"⟩
abbrev cX10_ofOrder : ByteArray := prog_12_method_10_code
def yX10_ofOrder : MethodName := ⟨RX10, "ofOrder", "([III)I"⟩
abbrev cX10_isGallery : ByteArray := prog_12_method_11_code
def yX10_isGallery : MethodName := ⟨RX10, "isGallery", "([II)Z"⟩
abbrev cX10_isCell : ByteArray := prog_12_method_12_code
def yX10_isCell : MethodName := ⟨RX10, "isCell", "([III)Z"⟩
abbrev cX10_isMiner : ByteArray := prog_12_method_13_code
def yX10_isMiner : MethodName := ⟨RX10, "isMiner", "([II)Z"⟩
abbrev cX10_isLamp : ByteArray := prog_12_method_14_code
def yX10_isLamp : MethodName := ⟨RX10, "isLamp", "([II)Z"⟩
abbrev cX10_isSetting : ByteArray := prog_12_method_15_code
def yX10_isSetting : MethodName := ⟨RX10, "isSetting", "(II)Z"⟩
abbrev cX10_lights : ByteArray := prog_12_method_16_code
def yX10_lights : MethodName := ⟨RX10, "lights", "([IIII)Z"⟩
abbrev cX10_isLit : ByteArray := prog_12_method_17_code
def yX10_isLit : MethodName := ⟨RX10, "isLit", "([III)Z"⟩
abbrev cX10_hard : ByteArray := prog_12_method_18_code
def yX10_hard : MethodName := ⟨RX10, "hard", "(II)I"⟩
abbrev cX10_between : ByteArray := prog_12_method_19_code
def yX10_between : MethodName := ⟨RX10, "between", "(IIII)I"⟩
abbrev cX10_toMouth : ByteArray := prog_12_method_20_code
def yX10_toMouth : MethodName := ⟨RX10, "toMouth", "([I)Z"⟩
abbrev cX10_toTarget : ByteArray := prog_12_method_21_code
def yX10_toTarget : MethodName := ⟨RX10, "toTarget", "([I)Z"⟩
abbrev cX10_goalGallery : ByteArray := prog_12_method_22_code
def yX10_goalGallery : MethodName := ⟨RX10, "goalGallery", "([I)I"⟩
abbrev cX10_goalCell : ByteArray := prog_12_method_23_code
def yX10_goalCell : MethodName := ⟨RX10, "goalCell", "([I)I"⟩
abbrev cX10_orderDone : ByteArray := prog_12_method_24_code
def yX10_orderDone : MethodName := ⟨RX10, "orderDone", "([II)V"⟩
abbrev cX10_pour : ByteArray := prog_12_method_25_code
def yX10_pour : MethodName := ⟨RX10, "pour", "([II)V"⟩
abbrev cX10_takeOil : ByteArray := prog_12_method_26_code
def yX10_takeOil : MethodName := ⟨RX10, "takeOil", "([I)V"⟩
abbrev cX10_handle : ByteArray := prog_12_method_27_code
def yX10_handle : MethodName := ⟨RX10, "handle", "([I)V"⟩
abbrev cX10_handleAll : ByteArray := prog_12_method_28_code
def yX10_handleAll : MethodName := ⟨RX10, "handleAll", "([I)V"⟩
abbrev cX10_step : ByteArray := prog_12_method_29_code
def yX10_step : MethodName := ⟨RX10, "step", "([I)V"⟩
abbrev cX10_ladGoes : ByteArray := prog_12_method_30_code
def yX10_ladGoes : MethodName := ⟨RX10, "ladGoes", "([I)V"⟩
abbrev cX10_mine : ByteArray := prog_12_method_31_code
def yX10_mine : MethodName := ⟨RX10, "mine", "([II)V"⟩
abbrev cX10_burn : ByteArray := prog_12_method_32_code
def yX10_burn : MethodName := ⟨RX10, "burn", "([I)V"⟩
abbrev cX10_forward : ByteArray := prog_12_method_33_code
def yX10_forward : MethodName := ⟨RX10, "forward", "([II)I"⟩
abbrev cX10_isWorked : ByteArray := prog_12_method_34_code
def yX10_isWorked : MethodName := ⟨RX10, "isWorked", "([II)Z"⟩
abbrev cX10_looksHimself : ByteArray := prog_12_method_35_code
def yX10_looksHimself : MethodName := ⟨RX10, "looksHimself", "([I)V"⟩
abbrev cX10_hour : ByteArray := prog_12_method_36_code
def yX10_hour : MethodName := ⟨RX10, "hour", "([I)V"⟩
abbrev cX10_hoursOn : ByteArray := prog_12_method_37_code
def yX10_hoursOn : MethodName := ⟨RX10, "hoursOn", "([II)I"⟩
abbrev cX10_galleryOn : ByteArray := prog_12_method_38_code
def yX10_galleryOn : MethodName := ⟨RX10, "galleryOn", "([II)I"⟩
abbrev cX10_minerOn : ByteArray := prog_12_method_39_code
def yX10_minerOn : MethodName := ⟨RX10, "minerOn", "([III)I"⟩
abbrev cX10_lampOn : ByteArray := prog_12_method_40_code
def yX10_lampOn : MethodName := ⟨RX10, "lampOn", "([IIIII)I"⟩
abbrev cX10_storeOn : ByteArray := prog_12_method_41_code
def yX10_storeOn : MethodName := ⟨RX10, "storeOn", "([II)I"⟩
abbrev cX10_orderOn : ByteArray := prog_12_method_42_code
def yX10_orderOn : MethodName := ⟨RX10, "orderOn", "([IIIII)I"⟩
abbrev cX10_canMiner : ByteArray := prog_12_method_43_code
def yX10_canMiner : MethodName := ⟨RX10, "canMiner", "([II)Z"⟩
abbrev cX10_canLamp : ByteArray := prog_12_method_44_code
def yX10_canLamp : MethodName := ⟨RX10, "canLamp", "([III)Z"⟩
abbrev cX10_canHang : ByteArray := prog_12_method_45_code
def yX10_canHang : MethodName := ⟨RX10, "canHang", "([IIII)Z"⟩
abbrev cX10_canFill : ByteArray := prog_12_method_46_code
def yX10_canFill : MethodName := ⟨RX10, "canFill", "([III)Z"⟩
abbrev cX10_change : ByteArray := prog_12_method_47_code
def yX10_change : MethodName := ⟨RX10, "change", "([III)I"⟩
abbrev cX10_append : ByteArray := prog_12_method_48_code
def yX10_append : MethodName := ⟨RX10, "append", "(I)I"⟩
abbrev cX10_clearText : ByteArray := prog_12_method_49_code
def yX10_clearText : MethodName := ⟨RX10, "clearText", "()I"⟩
abbrev cX10_figures : ByteArray := prog_12_method_50_code
def yX10_figures : MethodName := ⟨RX10, "figures", "(IIII)I"⟩
abbrev cX10_done : ByteArray := prog_12_method_51_code
def yX10_done : MethodName := ⟨RX10, "done", "(Z)Z"⟩
abbrev cX10_gallerySign : ByteArray := prog_12_method_52_code
def yX10_gallerySign : MethodName := ⟨RX10, "gallerySign", "(I)I"⟩
abbrev cX10_cellSign : ByteArray := prog_12_method_53_code
def yX10_cellSign : MethodName := ⟨RX10, "cellSign", "(I)I"⟩
abbrev cX10_lampSign : ByteArray := prog_12_method_54_code
def yX10_lampSign : MethodName := ⟨RX10, "lampSign", "(I)I"⟩
abbrev cX10_readLamp : ByteArray := prog_12_method_55_code
def yX10_readLamp : MethodName := ⟨RX10, "readLamp", "([I)Z"⟩
abbrev cX10_readHang : ByteArray := prog_12_method_56_code
def yX10_readHang : MethodName := ⟨RX10, "readHang", "([I)Z"⟩
abbrev cX10_readCommand : ByteArray := prog_12_method_57_code
def yX10_readCommand : MethodName := ⟨RX10, "readCommand", "([I)Z"⟩
abbrev cX10_readText : ByteArray := prog_12_method_58_code
def yX10_readText : MethodName := ⟨RX10, "readText", "([I)I"⟩
abbrev cX10_errorPosition : ByteArray := prog_12_method_59_code
def yX10_errorPosition : MethodName := ⟨RX10, "errorPosition", "()I"⟩
abbrev cX10_load : ByteArray := prog_12_method_60_code
def yX10_load : MethodName := ⟨RX10, "load", "()I"⟩
abbrev cX10_about : ByteArray := prog_12_method_61_code
def yX10_about : MethodName := ⟨RX10, "about", "(I)I"⟩
abbrev cX10_galleryOf : ByteArray := prog_12_method_62_code
def yX10_galleryOf : MethodName := ⟨RX10, "galleryOf", "(II)I"⟩
abbrev cX10_minerOf : ByteArray := prog_12_method_63_code
def yX10_minerOf : MethodName := ⟨RX10, "minerOf", "(II)I"⟩
abbrev cX10_lampOf : ByteArray := prog_12_method_64_code
def yX10_lampOf : MethodName := ⟨RX10, "lampOf", "(II)I"⟩
abbrev cX10_stepsLeft : ByteArray := prog_12_method_65_code
def yX10_stepsLeft : MethodName := ⟨RX10, "stepsLeft", "()I"⟩
abbrev cX10_lad : ByteArray := prog_12_method_66_code
def yX10_lad : MethodName := ⟨RX10, "lad", "(I)I"⟩
abbrev cX10_orderOf : ByteArray := prog_12_method_67_code
def yX10_orderOf : MethodName := ⟨RX10, "orderOf", "(II)I"⟩
abbrev cX10_lit : ByteArray := prog_12_method_68_code
def yX10_lit : MethodName := ⟨RX10, "lit", "(II)I"⟩
abbrev cX10_remember : ByteArray := prog_12_method_69_code
def yX10_remember : MethodName := ⟨RX10, "remember", "()V"⟩
abbrev cX10_gallery : ByteArray := prog_12_method_70_code
def yX10_gallery : MethodName := ⟨RX10, "gallery", "(I)I"⟩
abbrev cX10_miner : ByteArray := prog_12_method_71_code
def yX10_miner : MethodName := ⟨RX10, "miner", "(II)I"⟩
abbrev cX10_send : ByteArray := prog_12_method_72_code
def yX10_send : MethodName := ⟨RX10, "send", "(II)I"⟩
abbrev cX10_lamp : ByteArray := prog_12_method_73_code
def yX10_lamp : MethodName := ⟨RX10, "lamp", "(IIII)I"⟩
abbrev cX10_store : ByteArray := prog_12_method_74_code
def yX10_store : MethodName := ⟨RX10, "store", "(I)I"⟩
abbrev cX10_hang : ByteArray := prog_12_method_75_code
def yX10_hang : MethodName := ⟨RX10, "hang", "(III)I"⟩
abbrev cX10_fill : ByteArray := prog_12_method_76_code
def yX10_fill : MethodName := ⟨RX10, "fill", "(II)I"⟩
abbrev cX10_drop : ByteArray := prog_12_method_77_code
def yX10_drop : MethodName := ⟨RX10, "drop", "(I)I"⟩
abbrev cX10_set : ByteArray := prog_12_method_78_code
def yX10_set : MethodName := ⟨RX10, "set", "(II)I"⟩
abbrev cX10_hours : ByteArray := prog_12_method_79_code
def yX10_hours : MethodName := ⟨RX10, "hours", "(I)I"⟩
abbrev cX10_undo : ByteArray := prog_12_method_80_code
def yX10_undo : MethodName := ⟨RX10, "undo", "()I"⟩
abbrev cX10_darkIn : ByteArray := prog_12_method_81_code
def yX10_darkIn : MethodName := ⟨RX10, "darkIn", "(I)I"⟩
abbrev cX10_depthIn : ByteArray := prog_12_method_82_code
def yX10_depthIn : MethodName := ⟨RX10, "depthIn", "(II)I"⟩
abbrev cX10_doneIn : ByteArray := prog_12_method_83_code
def yX10_doneIn : MethodName := ⟨RX10, "doneIn", "()I"⟩
abbrev cX10_bestCell : ByteArray := prog_12_method_84_code
def yX10_bestCell : MethodName := ⟨RX10, "bestCell", "(III)I"⟩
abbrev cX10_steps : ByteArray := prog_12_method_85_code
def yX10_steps : MethodName := ⟨RX10, "steps", "(IIII)I"⟩
abbrev cX10_sends : ByteArray := prog_12_method_86_code
def yX10_sends : MethodName := ⟨RX10, "sends", "(II)Z"⟩
abbrev cX10_command : ByteArray := prog_12_method_87_code
def yX10_command : MethodName := ⟨RX10, "command", "(II)Z"⟩
abbrev cX10_runScript : ByteArray := prog_12_method_88_code
def yX10_runScript : MethodName := ⟨RX10, "runScript", "(IJ)I"⟩
abbrev cX10_turnThing : ByteArray := prog_12_method_89_code
def yX10_turnThing : MethodName := ⟨RX10, "turnThing", "(II)V"⟩
abbrev cX10_turnOrder : ByteArray := prog_12_method_90_code
def yX10_turnOrder : MethodName := ⟨RX10, "turnOrder", "(II)V"⟩
abbrev cX10_simulate : ByteArray := prog_12_method_91_code
def yX10_simulate : MethodName := ⟨RX10, "simulate", "(JI)I"⟩
abbrev cX10_save : ByteArray := prog_12_method_92_code
def yX10_save : MethodName := ⟨RX10, "save", "(I)I"⟩
abbrev cX10_restore : ByteArray := prog_12_method_93_code
def yX10_restore : MethodName := ⟨RX10, "restore", "(I)I"⟩
def RJ9 : String := "java/lang/Math"
def TJ9 : u_T := fun k => match k with
  | _ => ("", "", "", false)
def tyJ9 : Nat → FieldType := fun k => match k with
  | _ => .int
abbrev wsJ90 : List Cond := u_ws RJ9 TJ9 0
theorem nmJ9 : ∀ a, a < 0 → ∀ b, b < 0 → a ≠ b → (TJ9 a).2.1 ≠ (TJ9 b).2.1 := by decide +kernel
theorem tyJ9_ok : ∀ k, k < 0 → parseFieldDescriptor (TJ9 k).2.2.1 = some (tyJ9 k) := by decide +kernel
abbrev cJ9_abs_0f7a4 : ByteArray := prog_17_method_59_code
def yJ9_abs_0f7a4 : MethodName := ⟨RJ9, "abs", "(I)I"⟩
abbrev cJ9_max_7cf53 : ByteArray := prog_17_method_65_code
def yJ9_max_7cf53 : MethodName := ⟨RJ9, "max", "(II)I"⟩
abbrev cJ9_min_7cf53 : ByteArray := prog_17_method_69_code
def yJ9_min_7cf53 : MethodName := ⟨RJ9, "min", "(II)I"⟩
def RJ0 : String := "java/lang/String"
def TJ0 : u_T := fun k => match k with
  | _ => ("", "", "", false)
def tyJ0 : Nat → FieldType := fun k => match k with
  | _ => .int
abbrev wsJ00 : List Cond := u_ws RJ0 TJ0 0
theorem nmJ0 : ∀ a, a < 0 → ∀ b, b < 0 → a ≠ b → (TJ0 a).2.1 ≠ (TJ0 b).2.1 := by decide +kernel
theorem tyJ0_ok : ∀ k, k < 0 → parseFieldDescriptor (TJ0 k).2.2.1 = some (tyJ0 k) := by decide +kernel
def RL : String := "TunnelLampsLaw"
abbrev cL_append : ByteArray := method_3_code
def yL_append : MethodName := ⟨RL, "append", "(LTunnelLamps;I[J)I"⟩
abbrev cL_load : ByteArray := method_4_code
def yL_load : MethodName := ⟨RL, "load", "(LTunnelLamps;[J)I"⟩
abbrev cL_about : ByteArray := method_5_code
def yL_about : MethodName := ⟨RL, "about", "(LTunnelLamps;I[J)I"⟩
abbrev cL_galleryOf : ByteArray := method_6_code
def yL_galleryOf : MethodName := ⟨RL, "galleryOf", "(LTunnelLamps;II[J)I"⟩
abbrev cL_minerOf : ByteArray := method_7_code
def yL_minerOf : MethodName := ⟨RL, "minerOf", "(LTunnelLamps;II[J)I"⟩
abbrev cL_lampOf : ByteArray := method_8_code
def yL_lampOf : MethodName := ⟨RL, "lampOf", "(LTunnelLamps;II[J)I"⟩
abbrev cL_lad : ByteArray := method_9_code
def yL_lad : MethodName := ⟨RL, "lad", "(LTunnelLamps;I[J)I"⟩
abbrev cL_orderOf : ByteArray := method_10_code
def yL_orderOf : MethodName := ⟨RL, "orderOf", "(LTunnelLamps;II[J)I"⟩
abbrev cL_lit : ByteArray := method_11_code
def yL_lit : MethodName := ⟨RL, "lit", "(LTunnelLamps;II[J)I"⟩
abbrev cL_gallery : ByteArray := method_12_code
def yL_gallery : MethodName := ⟨RL, "gallery", "(LTunnelLamps;I[J)I"⟩
abbrev cL_miner : ByteArray := method_13_code
def yL_miner : MethodName := ⟨RL, "miner", "(LTunnelLamps;II[J)I"⟩
abbrev cL_send : ByteArray := method_14_code
def yL_send : MethodName := ⟨RL, "send", "(LTunnelLamps;II[J)I"⟩
abbrev cL_lamp : ByteArray := method_15_code
def yL_lamp : MethodName := ⟨RL, "lamp", "(LTunnelLamps;IIII[J)I"⟩
abbrev cL_store : ByteArray := method_16_code
def yL_store : MethodName := ⟨RL, "store", "(LTunnelLamps;I[J)I"⟩
abbrev cL_hang : ByteArray := method_17_code
def yL_hang : MethodName := ⟨RL, "hang", "(LTunnelLamps;III[J)I"⟩
abbrev cL_fill : ByteArray := method_18_code
def yL_fill : MethodName := ⟨RL, "fill", "(LTunnelLamps;II[J)I"⟩
abbrev cL_drop : ByteArray := method_19_code
def yL_drop : MethodName := ⟨RL, "drop", "(LTunnelLamps;I[J)I"⟩
abbrev cL_set : ByteArray := method_20_code
def yL_set : MethodName := ⟨RL, "set", "(LTunnelLamps;II[J)I"⟩
abbrev cL_hours : ByteArray := method_21_code
def yL_hours : MethodName := ⟨RL, "hours", "(LTunnelLamps;I[J)I"⟩
abbrev cL_undo : ByteArray := method_22_code
def yL_undo : MethodName := ⟨RL, "undo", "(LTunnelLamps;[J)I"⟩
abbrev cL_darkIn : ByteArray := method_23_code
def yL_darkIn : MethodName := ⟨RL, "darkIn", "(LTunnelLamps;I[J)I"⟩
abbrev cL_depthIn : ByteArray := method_24_code
def yL_depthIn : MethodName := ⟨RL, "depthIn", "(LTunnelLamps;II[J)I"⟩
abbrev cL_bestCell : ByteArray := method_25_code
def yL_bestCell : MethodName := ⟨RL, "bestCell", "(LTunnelLamps;III[J)I"⟩
abbrev cL_steps : ByteArray := method_26_code
def yL_steps : MethodName := ⟨RL, "steps", "(LTunnelLamps;IIII[J)I"⟩
abbrev cL_runScript : ByteArray := method_27_code
def yL_runScript : MethodName := ⟨RL, "runScript", "(LTunnelLamps;IJ[J)I"⟩
abbrev cL_simulate : ByteArray := method_28_code
def yL_simulate : MethodName := ⟨RL, "simulate", "(LTunnelLamps;JI[J)I"⟩
abbrev cL_save : ByteArray := method_29_code
def yL_save : MethodName := ⟨RL, "save", "(LTunnelLamps;I[J)I"⟩
abbrev cL_restore : ByteArray := method_30_code
def yL_restore : MethodName := ⟨RL, "restore", "(LTunnelLamps;I[J)I"⟩
abbrev cL_law : ByteArray := code
def yL_law : MethodName := ⟨RL, "law", "([I)Z"⟩
abbrev vwCl : List vw_C := [(RX0, TX0, 5), (RX1, TX1, 2), (RX2, TX2, 3), (RX3, TX3, 7), (RX4, TX4, 4), (RX5, TX5, 16), (RX6, TX6, 3), (RX7, TX7, 4), (RX8, TX8, 5), (RX9, TX9, 8), (RX10, TX10, 11)]
end
section
/-! A judgement over an abstract heap: what a method's frame does, with all of the machine's context inside it. -/
/-- the words that every method may use -/
def tl_GW : List Cond := lw_tbl.filter goodWord
theorem tl_inGW {w : Cond} (h : w ∈ tables_1) (g : goodWord w = true) : w ∈ tl_GW := List.mem_filter.mpr ⟨List.mem_append_right _ h, g⟩
theorem tl_inGWs {w : Cond} (h : w ∈ k2_sels lw_privs) (g : goodWord w = true) : w ∈ tl_GW := List.mem_filter.mpr ⟨List.mem_append_left _ h, g⟩
theorem tl_goodIn : ∀ {w : Cond} {l : List Cond}, w ∈ tl_GW → GoodIn (l ++ tl_GW) (w :: tl_GW) := by
  intro w l h q hq
  rcases List.mem_cons.mp hq with e | e
  · rw [e]; exact ⟨List.mem_append_right _ h, good_of_word (List.mem_filter.mp h).2⟩
  · exact ⟨List.mem_append_right _ e, good_of_word (List.mem_filter.mp e).2⟩
theorem tl_goodInG : ∀ {w : Cond}, w ∈ tl_GW → GoodIn tl_GW (w :: tl_GW) := by
  intro w h q hq
  rcases List.mem_cons.mp hq with e | e
  · rw [e]; exact ⟨h, good_of_word (List.mem_filter.mp h).2⟩
  · exact ⟨e, good_of_word (List.mem_filter.mp e).2⟩
/-- launch, the first address of the world, the classes' numbers, the arrays' classes -/
abbrev tl_E : Type := Launch × Nat × va_G × (Nat → ClassId)
/-- a method: its name, its bytes, its locals, what it returns, its room -/
abbrev tl_M : Type := MethodName × ByteArray × Nat × Option FieldType × Room
def tl_rm (d mc ms : Nat) : Room := { frames := d, cells := mc, slots := ms, locals := 36 * d }
def tl_tys (dA : Nat → ClassId) : List (ClassId × FieldType) := [(dA 0, .int), (dA 1, .char), (dA 2, .boolean), (dA 3, .long), (dA 4, .object RX1), (dA 5, .object RX7), (dA 6, .object RX4), (dA 7, .object RX8), (dA 8, .object RX5)]
/-- words that a call keeps one by one -/
def tl_NM : List (String × Nat × MethodName) := [(RX9, 11, yX6_init), (RX9, 18, yX0_init), (RX3, 21, yX8_init), (RX5, 40, yX1_init), (RX5, 41, yX7_init), (RX5, 42, yX4_init), (RX6, 62, yX9_isWithin), (RX1, 18, yX9_strokesFor), (RX5, 143, yX9_isWithin), (RX5, 147, yX9_refusalOf)]
def tl_ND : List MethodName := [⟨"java/lang/RuntimeException", "<init>", "()V"⟩, ⟨"java/lang/RuntimeException", "<init>", "(Ljava/lang/String;)V"⟩, ⟨"java/lang/Exception", "<init>", "()V"⟩, ⟨"java/lang/Exception", "<init>", "(Ljava/lang/String;)V"⟩, ⟨"java/lang/Throwable", "<init>", "()V"⟩, ⟨"java/lang/Throwable", "<init>", "(Ljava/lang/String;)V"⟩]
def tl_NC : List String := ["java/lang/IndexOutOfBoundsException", "java/lang/IllegalArgumentException", "java/lang/IllegalStateException"]
def tl_NA : List String := [RX1, RX7, RX4, RX8, RX5]
def tl_KK (E : tl_E) (U : State) : Prop :=
  va_K E.2.2.1 vwCl (tl_tys E.2.2.2) U ∧ (∀ C ∈ tl_NA, va_AO C U) ∧ (∀ w ∈ tl_NM, va_Nw (.methodLinkNest w.1 w.2.1 w.2.2 RX9) U) ∧ (∀ x ∈ tl_ND, va_Nw (.declares x) U) ∧ (∀ x ∈ tl_NC, va_Nw (.castable x x) U) ∧
  (vx_Zq Bundle.tN "UNASSIGNED_STACK" Bundle.steD (fun q => E.2.1 ≤ q) U U.heap ∧ vx_Zq Bundle.tN "SUPPRESSED_SENTINEL" Bundle.listD (fun q => E.2.1 ≤ q) U U.heap) ∧
  (∃ a, vk_R RX9 314 "there is no such thing" a U) ∧ (∃ a, vk_R RX9 321 "an argument is out of its range" a U) ∧ (∃ a, vk_R RX9 326 "this is not possible now" a U)
theorem tl_KK_step {E : tl_E} {s U : State} (h : tl_KK E s) (hW : s.WarmedH U.vm) (kp : ∀ a : Nat, a < s.heap.size → ¬ (E.2.1 ≤ a) → U.heap[a]? = s.heap[a]?) : tl_KK E U := by
  obtain ⟨h1, h2, h3, h4, h5, ⟨z1, z2⟩, ⟨a1, r1⟩, ⟨a2, r2⟩, ⟨a3, r3⟩⟩ := h
  exact ⟨h1.moved hW.alike, fun C hC => (h2 C hC).moved hW.alike, fun w hw => va_Nw.warmM hW (h3 w hw), fun x hx => va_Nw.warmD hW (h4 x hx), fun x hx => va_Nw.warmC hW (h5 x hx), ⟨(z1.moved hW.alike).kept kp, (z2.moved hW.alike).kept kp⟩, ⟨a1, r1.warm hW⟩, ⟨a2, r2.warm hW⟩, ⟨a3, r3.warm hW⟩⟩
/-! ### locals, by their places -/
def tl_ld : List (Option Value) → Nat → Option Value
  | [], _ => none
  | o :: _, 0 => o
  | _ :: t, i + 1 => tl_ld t i
def tl_c2 : Option Value → Option Value
  | some (.long _) => none
  | some (.double _) => none
  | o => o
def tl_st : List (Option Value) → Nat → Value → List (Option Value)
  | [], _, _ => []
  | _ :: t, 0, v => some v :: t
  | o :: t, 1, v => tl_c2 o :: tl_st t 0 v
  | o :: t, i + 2, v => o :: tl_st t (i + 1) v
def tl_cl : List (Option Value) → Nat → List (Option Value)
  | [], _ => []
  | _ :: t, 0 => none :: t
  | o :: t, i + 1 => o :: tl_cl t i
def tl_lq : List (Option Value) → Nat → List (Nat × Value)
  | [], _ => []
  | none :: t, n => tl_lq t (n + 1)
  | some v :: t, n => (n, v) :: tl_lq t (n + 1)
theorem tl_st_len : ∀ (ls : List (Option Value)) (i : Nat) (v : Value), (tl_st ls i v).length = ls.length
  | [], _, _ => rfl
  | _ :: t, 0, v => rfl
  | o :: t, 1, v => by simp [tl_st, tl_st_len t 0 v]
  | o :: t, i + 2, v => by simp [tl_st, tl_st_len t (i + 1) v]
theorem tl_cl_len : ∀ (ls : List (Option Value)) (i : Nat), (tl_cl ls i).length = ls.length
  | [], _ => rfl
  | _ :: t, 0 => rfl
  | o :: t, i + 1 => by simp [tl_cl, tl_cl_len t i]
theorem tl_lq_mem : ∀ (ls : List (Option Value)) (n : Nat) (q : Nat × Value), q ∈ tl_lq ls n ↔ ∃ j, q.1 = n + j ∧ tl_ld ls j = some q.2
  | [], n, q => by simp [tl_lq, tl_ld]
  | none :: t, n, q => by
    rw [tl_lq, tl_lq_mem t (n + 1) q]
    constructor
    · rintro ⟨j, h1, h2⟩; exact ⟨j + 1, by omega, h2⟩
    · rintro ⟨j, h1, h2⟩
      match j, h2 with
      | 0, h2 => cases h2
      | j + 1, h2 => exact ⟨j, by omega, h2⟩
  | some v :: t, n, q => by
    rw [tl_lq, List.mem_cons, tl_lq_mem t (n + 1) q]
    constructor
    · rintro (rfl | ⟨j, h1, h2⟩)
      · exact ⟨0, rfl, rfl⟩
      · exact ⟨j + 1, by omega, h2⟩
    · rintro ⟨j, h1, h2⟩
      match j, h2 with
      | 0, h2 => left; cases h2; exact Prod.ext h1 rfl
      | j + 1, h2 => right; exact ⟨j, by omega, h2⟩
theorem tl_c2_spec {o : Option Value} {w : Value} (h : tl_c2 o = some w) : o = some w ∧ w.category ≠ 2 := by
  cases o with
  | none => cases h
  | some x => cases x <;> first | (cases h; done) | (cases h; exact ⟨rfl, by simp [Value.category]⟩)
theorem tl_st_spec : ∀ (ls : List (Option Value)) (i : Nat) (v w : Value) (j : Nat), tl_ld (tl_st ls i v) j = some w → (j = i ∧ w = v) ∨ (j ≠ i ∧ tl_ld ls j = some w ∧ ¬ (j + 1 = i ∧ w.category = 2))
  | [], _, _, _, _, h => by cases h
  | _ :: t, 0, v, w, 0, h => by left; cases h; exact ⟨rfl, rfl⟩
  | _ :: t, 0, v, w, j + 1, h => by right; exact ⟨by omega, h, by omega⟩
  | o :: t, 1, v, w, 0, h => by
    right
    have h := tl_c2_spec (show tl_c2 o = some w from h)
    exact ⟨by omega, h.1, fun q => h.2 q.2⟩
  | o :: t, 1, v, w, j + 1, h => by
    rcases tl_st_spec t 0 v w j h with ⟨h1, h2⟩ | ⟨h1, h2, h3⟩
    · left; exact ⟨by omega, h2⟩
    · right; exact ⟨by omega, h2, by omega⟩
  | o :: t, i + 2, v, w, 0, h => by right; exact ⟨by omega, h, by omega⟩
  | o :: t, i + 2, v, w, j + 1, h => by
    rcases tl_st_spec t (i + 1) v w j h with ⟨h1, h2⟩ | ⟨h1, h2, h3⟩
    · left; exact ⟨by omega, h2⟩
    · right; exact ⟨by omega, h2, fun q => h3 ⟨by omega, q.2⟩⟩
theorem tl_cl_spec : ∀ (ls : List (Option Value)) (i : Nat) (w : Value) (j : Nat), tl_ld (tl_cl ls i) j = some w → j ≠ i ∧ tl_ld ls j = some w
  | [], _, _, _, h => by cases h
  | _ :: t, 0, w, 0, h => by cases h
  | _ :: t, 0, w, j + 1, h => ⟨by omega, h⟩
  | o :: t, i + 1, w, 0, h => ⟨by omega, h⟩
  | o :: t, i + 1, w, j + 1, h => by
    have := tl_cl_spec t i w j h
    exact ⟨by omega, this.2⟩
def tl_LV (nL : Nat) (la : Array Slot) (ls : List (Option Value)) : Prop := ls.length = nL ∧ lv_has la nL (tl_lq ls 0)
theorem tl_LV_ld {nL : Nat} {la : Array Slot} {ls : List (Option Value)} (h : tl_LV nL la ls) {i : Nat} {v : Value} (hl : tl_ld ls i = some v) : la[i]? = some (.val v) :=
  h.2.2.2 (i, v) ((tl_lq_mem ls 0 (i, v)).mpr ⟨i, by omega, hl⟩)
theorem tl_LV_st {nL : Nat} {la : Array Slot} {ls : List (Option Value)} {i : Nat} {v : Value} (hn : ls.length = nL) (h : lv_has la nL ((i, v) :: (tl_lq ls 0).filter (fun q => !(q.1 == i) && !(q.1 + 1 == i && q.2.category == 2)))) : tl_LV nL la (tl_st ls i v) := by
  refine ⟨by rw [tl_st_len]; exact hn, h.1, h.2.1, fun q hq => ?_⟩
  obtain ⟨j, h1, h2⟩ := (tl_lq_mem _ 0 q).mp hq
  rw [Nat.zero_add] at h1
  rcases tl_st_spec _ _ _ _ _ h2 with ⟨e1, e2⟩ | ⟨e1, e2, e3⟩
  · have e : q = (i, v) := Prod.ext (h1.trans e1) e2
    rw [e]; exact h.2.2 _ List.mem_cons_self
  · refine h.2.2 q (List.mem_cons_of_mem _ (List.mem_filter.mpr ⟨(tl_lq_mem _ 0 q).mpr ⟨j, by omega, e2⟩, ?_⟩))
    have a1 : ¬ q.1 = i := by omega
    have a2 : ¬ (q.1 + 1 = i ∧ q.2.category = 2) := fun z => e3 ⟨by omega, z.2⟩
    simp only [Bool.and_eq_true, Bool.not_eq_true', beq_eq_false_iff_ne, ne_eq, Bool.and_eq_false_iff]
    refine ⟨a1, ?_⟩
    by_cases b : q.1 + 1 = i
    · right; intro z; exact a2 ⟨b, z⟩
    · left; exact b
theorem tl_LV_st2 {nL : Nat} {la : Array Slot} {ls : List (Option Value)} {i : Nat} {v : Value} (hn : ls.length = nL) (h : lv_has la nL ((i, v) :: (tl_lq ls 0).filter (fun q => !(q.1 == i) && (!(q.1 == i + 1) && !(q.1 + 1 == i && q.2.category == 2))))) : tl_LV nL la (tl_st (tl_cl ls (i + 1)) i v) := by
  refine ⟨by rw [tl_st_len, tl_cl_len]; exact hn, h.1, h.2.1, fun q hq => ?_⟩
  obtain ⟨j, h1, h2⟩ := (tl_lq_mem _ 0 q).mp hq
  rw [Nat.zero_add] at h1
  rcases tl_st_spec _ _ _ _ _ h2 with ⟨e1, e2⟩ | ⟨e1, e2, e3⟩
  · have e : q = (i, v) := Prod.ext (h1.trans e1) e2
    rw [e]; exact h.2.2 _ List.mem_cons_self
  · have e4 := tl_cl_spec _ _ _ _ e2
    refine h.2.2 q (List.mem_cons_of_mem _ (List.mem_filter.mpr ⟨(tl_lq_mem _ 0 q).mpr ⟨j, by omega, e4.2⟩, ?_⟩))
    have a1 : ¬ q.1 = i := by omega
    have a3 : ¬ q.1 = i + 1 := by omega
    have a2 : ¬ (q.1 + 1 = i ∧ q.2.category = 2) := fun z => e3 ⟨by omega, z.2⟩
    simp only [Bool.and_eq_true, Bool.not_eq_true', beq_eq_false_iff_ne, ne_eq, Bool.and_eq_false_iff]
    refine ⟨a1, a3, ?_⟩
    by_cases b : q.1 + 1 = i
    · right; intro z; exact a2 ⟨b, z⟩
    · left; exact b
/-! ### the judgement -/
def tl_Cx (E : tl_E) (M : tl_M) (p : Program) (s : State) (m : MethodId) (args : Array Value) (meth : Method) (c : Code) : Prop :=
  p.tables.exec = Jvm.exec ∧ c.code = M.2.1 ∧ meth.sig.returnType = M.2.2.2.1 ∧ c.maxLocals = M.2.2.1 ∧ s.vm.findClass M.1.cls = some m.cls ∧ (∀ w ∈ tl_GW, w.before args s = true) ∧ meth.locks = false ∧ meth.name = M.1.name ∧ tl_KK E s ∧ E.2.1 ≤ s.heap.size
def tl_R (E : tl_E) (M : tl_M) (X : State → Array Value → Code → Prop) (Z : List Frame → Array Value → State → State → Prop) (k n : Nat) (HP : Heap → Prop) (pc : Nat) (ls : List (Option Value)) (st : List Value) : Prop :=
  ∀ (p : Program) (e : Env) (s : State) (m : MethodId) (args : Array Value) (below : List Frame) (meth : Method) (c : Code), tl_Cx E M p s m args meth c → X s args c →
  ∀ (H : Heap) (la : Array Slot) (locs : List Loc), HP H → va_S (fun q => E.2.1 ≤ q) s.heap H locs → tl_LV M.2.2.1 la ls →
  W p E.1 e M.2.2.2.2 s m args below meth c H locs k n (Z below args s) (F0 m pc la st)
section TLR
variable {E : tl_E} {M : tl_M} {X : State → Array Value → Code → Prop} {Z : List Frame → Array Value → State → State → Prop} {k n pc : Nat} {HP : Heap → Prop} {ls : List (Option Value)} {st : List Value}
theorem tl_widen {k2 n2 : Nat} (h1 : k ≤ k2) (h2 : n ≤ n2) (kk : tl_R E M X Z k2 n2 HP pc ls st) : tl_R E M X Z k n HP pc ls st :=
  fun p e s m args below meth c hC hX H la locs hH hS hL => W.widen h1 h2 (kk p e s m args below meth c hC hX H la locs hH hS hL)
theorem tl_heap {HP2 : Heap → Prop} (h : ∀ H, HP H → HP2 H) (kk : tl_R E M X Z k n HP2 pc ls st) : tl_R E M X Z k n HP pc ls st :=
  fun p e s m args below meth c hC hX H la locs hH hS hL => kk p e s m args below meth c hC hX H la locs (h H hH) hS hL
theorem tl_ex {S : Type} {A : S → Prop} {HS : S → Heap → Prop} (kk : ∀ u, A u → tl_R E M X Z k n (HS u) pc ls st) : tl_R E M X Z k n (fun H => ∃ u, A u ∧ HS u H) pc ls st :=
  fun p e s m args below meth c hC hX H la locs hH hS hL => by
    obtain ⟨u, h1, h2⟩ := hH
    exact kk u h1 p e s m args below meth c hC hX H la locs h2 hS hL
theorem tl_iconst {q : Int} {v : Int32} (hd : decode M.2.1 pc = .ok (.iconst q, 1)) (hv : Int32.ofInt q = v) (kk : tl_R E M X Z k n HP (pc + 1) ls (.int v :: st)) : tl_R E M X Z k n HP pc ls (st) :=
  fun p e s m args below meth c hC hX H la locs hH hS hL => lv_iconst (v := v) hC.1 hC.2.1 hd hv (kk p e s m args below meth c hC hX H la locs hH hS hL)
theorem tl_bipush {q : Int} {v : Int32} (hd : decode M.2.1 pc = .ok (.bipush q, 2)) (hv : (Int8.ofInt q).toInt32 = v) (kk : tl_R E M X Z k n HP (pc + 2) ls (.int v :: st)) : tl_R E M X Z k n HP pc ls (st) :=
  fun p e s m args below meth c hC hX H la locs hH hS hL => lv_bipush (v := v) hC.1 hC.2.1 hd hv (kk p e s m args below meth c hC hX H la locs hH hS hL)
theorem tl_sipush {q : Int} {v : Int32} (hd : decode M.2.1 pc = .ok (.sipush q, 3)) (hv : (Int16.ofInt q).toInt32 = v) (kk : tl_R E M X Z k n HP (pc + 3) ls (.int v :: st)) : tl_R E M X Z k n HP pc ls (st) :=
  fun p e s m args below meth c hC hX H la locs hH hS hL => lv_sipush (v := v) hC.1 hC.2.1 hd hv (kk p e s m args below meth c hC hX H la locs hH hS hL)
theorem tl_lconst {q : Fin 2} {v : Int64} (hd : decode M.2.1 pc = .ok (.lconst q, 1)) (hv : Int64.ofNat (q : Nat) = v) (kk : tl_R E M X Z k n HP (pc + 1) ls (.long v :: st)) : tl_R E M X Z k n HP pc ls (st) :=
  fun p e s m args below meth c hC hX H la locs hH hS hL => lv_lconst (v := v) hC.1 hC.2.1 hd hv (kk p e s m args below meth c hC hX H la locs hH hS hL)
theorem tl_iload_n {q : Fin 4} {x : Int32} (hd : decode M.2.1 pc = .ok (.iload_n q, 1)) (hl : tl_ld ls (q : Nat) = some (.int x)) (kk : tl_R E M X Z k n HP (pc + 1) ls (.int x :: st)) : tl_R E M X Z k n HP pc ls (st) :=
  fun p e s m args below meth c hC hX H la locs hH hS hL => lv_iload_n hC.1 hC.2.1 hd rfl (tl_LV_ld hL hl) (kk p e s m args below meth c hC hX H la locs hH hS hL)
theorem tl_iload {i : Nat} {x : Int32} (hd : decode M.2.1 pc = .ok (.iload i, 2)) (hl : tl_ld ls i = some (.int x)) (kk : tl_R E M X Z k n HP (pc + 2) ls (.int x :: st)) : tl_R E M X Z k n HP pc ls (st) :=
  fun p e s m args below meth c hC hX H la locs hH hS hL => lv_iload hC.1 hC.2.1 hd (tl_LV_ld hL hl) (kk p e s m args below meth c hC hX H la locs hH hS hL)
theorem tl_istore_n {q : Fin 4} {x : Int32} (hd : decode M.2.1 pc = .ok (.istore_n q, 1)) (hi : (q : Nat) < M.2.2.1) (kk : tl_R E M X Z k n HP (pc + 1) (tl_st ls (q : Nat) (.int x)) st) : tl_R E M X Z k n HP pc ls (.int x :: st) :=
  fun p e s m args below meth c hC hX H la locs hH hS hL => lv_istore_n hC.1 hC.2.1 hd rfl hL.2 hi rfl (fun la' hL' => kk p e s m args below meth c hC hX H la' locs hH hS (tl_LV_st hL.1 hL'))
theorem tl_istore {i : Nat} {x : Int32} (hd : decode M.2.1 pc = .ok (.istore i, 2)) (hi : i < M.2.2.1) (kk : tl_R E M X Z k n HP (pc + 2) (tl_st ls i (.int x)) st) : tl_R E M X Z k n HP pc ls (.int x :: st) :=
  fun p e s m args below meth c hC hX H la locs hH hS hL => lv_istore hC.1 hC.2.1 hd hL.2 hi rfl (fun la' hL' => kk p e s m args below meth c hC hX H la' locs hH hS (tl_LV_st hL.1 hL'))
theorem tl_lload_n {q : Fin 4} {x : Int64} (hd : decode M.2.1 pc = .ok (.lload_n q, 1)) (hl : tl_ld ls (q : Nat) = some (.long x)) (kk : tl_R E M X Z k n HP (pc + 1) ls (.long x :: st)) : tl_R E M X Z k n HP pc ls (st) :=
  fun p e s m args below meth c hC hX H la locs hH hS hL => lv_lload_n hC.1 hC.2.1 hd rfl (tl_LV_ld hL hl) (kk p e s m args below meth c hC hX H la locs hH hS hL)
theorem tl_lload {i : Nat} {x : Int64} (hd : decode M.2.1 pc = .ok (.lload i, 2)) (hl : tl_ld ls i = some (.long x)) (kk : tl_R E M X Z k n HP (pc + 2) ls (.long x :: st)) : tl_R E M X Z k n HP pc ls (st) :=
  fun p e s m args below meth c hC hX H la locs hH hS hL => lv_lload hC.1 hC.2.1 hd (tl_LV_ld hL hl) (kk p e s m args below meth c hC hX H la locs hH hS hL)
theorem tl_lstore_n {q : Fin 4} {x : Int64} (hd : decode M.2.1 pc = .ok (.lstore_n q, 1)) (hi : (q : Nat) + 1 < M.2.2.1) (kk : tl_R E M X Z k n HP (pc + 1) (tl_st (tl_cl ls ((q : Nat) + 1)) (q : Nat) (.long x)) st) : tl_R E M X Z k n HP pc ls (.long x :: st) :=
  fun p e s m args below meth c hC hX H la locs hH hS hL => lv_lstore_n hC.1 hC.2.1 hd rfl hL.2 hi rfl (fun la' hL' => kk p e s m args below meth c hC hX H la' locs hH hS (tl_LV_st2 hL.1 hL'))
theorem tl_lstore {i : Nat} {x : Int64} (hd : decode M.2.1 pc = .ok (.lstore i, 2)) (hi : i + 1 < M.2.2.1) (kk : tl_R E M X Z k n HP (pc + 2) (tl_st (tl_cl ls (i + 1)) i (.long x)) st) : tl_R E M X Z k n HP pc ls (.long x :: st) :=
  fun p e s m args below meth c hC hX H la locs hH hS hL => lv_lstore hC.1 hC.2.1 hd hL.2 hi rfl (fun la' hL' => kk p e s m args below meth c hC hX H la' locs hH hS (tl_LV_st2 hL.1 hL'))
theorem tl_aload_n {q : Fin 4} {x : Nat} (hd : decode M.2.1 pc = .ok (.aload_n q, 1)) (hl : tl_ld ls (q : Nat) = some (.ref x)) (kk : tl_R E M X Z k n HP (pc + 1) ls (.ref x :: st)) : tl_R E M X Z k n HP pc ls (st) :=
  fun p e s m args below meth c hC hX H la locs hH hS hL => lv_aload_n hC.1 hC.2.1 hd rfl (tl_LV_ld hL hl) (kk p e s m args below meth c hC hX H la locs hH hS hL)
theorem tl_aload {i : Nat} {x : Nat} (hd : decode M.2.1 pc = .ok (.aload i, 2)) (hl : tl_ld ls i = some (.ref x)) (kk : tl_R E M X Z k n HP (pc + 2) ls (.ref x :: st)) : tl_R E M X Z k n HP pc ls (st) :=
  fun p e s m args below meth c hC hX H la locs hH hS hL => lv_aload hC.1 hC.2.1 hd (tl_LV_ld hL hl) (kk p e s m args below meth c hC hX H la locs hH hS hL)
theorem tl_astore_n {q : Fin 4} {x : Nat} (hd : decode M.2.1 pc = .ok (.astore_n q, 1)) (hi : (q : Nat) < M.2.2.1) (kk : tl_R E M X Z k n HP (pc + 1) (tl_st ls (q : Nat) (.ref x)) st) : tl_R E M X Z k n HP pc ls (.ref x :: st) :=
  fun p e s m args below meth c hC hX H la locs hH hS hL => lv_astore_n hC.1 hC.2.1 hd rfl hL.2 hi rfl (fun la' hL' => kk p e s m args below meth c hC hX H la' locs hH hS (tl_LV_st hL.1 hL'))
theorem tl_astore {i : Nat} {x : Nat} (hd : decode M.2.1 pc = .ok (.astore i, 2)) (hi : i < M.2.2.1) (kk : tl_R E M X Z k n HP (pc + 2) (tl_st ls i (.ref x)) st) : tl_R E M X Z k n HP pc ls (.ref x :: st) :=
  fun p e s m args below meth c hC hX H la locs hH hS hL => lv_astore hC.1 hC.2.1 hd hL.2 hi rfl (fun la' hL' => kk p e s m args below meth c hC hX H la' locs hH hS (tl_LV_st hL.1 hL'))
theorem tl_iinc {i : Nat} {q : Int} {x v : Int32} (hd : decode M.2.1 pc = .ok (.iinc i q, 3)) (hl : tl_ld ls i = some (.int x)) (hv : x + Int32.ofInt q = v) (hi : i < M.2.2.1) (kk : tl_R E M X Z k n HP (pc + 3) (tl_st ls i (.int v)) st) : tl_R E M X Z k n HP pc ls st := by
  intro p e s m args below meth c hC hX H la locs hH hS hL
  obtain ⟨kp, hk⟩ := List.getElem?_of_mem ((tl_lq_mem ls 0 (i, .int x)).mpr ⟨i, by omega, hl⟩)
  exact lv_iinc (v := v) hC.1 hC.2.1 hd hL.2 hk hv hi rfl (fun la' hL' => kk p e s m args below meth c hC hX H la' locs hH hS (tl_LV_st hL.1 hL'))
theorem tl_iadd {x y : Int32} (hd : decode M.2.1 pc = .ok (.iadd, 1)) (kk : tl_R E M X Z k n HP (pc + 1) ls (.int (x + y) :: st)) : tl_R E M X Z k n HP pc ls (.int y :: .int x :: st) :=
  fun p e s m args below meth c hC hX H la locs hH hS hL => lv_iadd hC.1 hC.2.1 hd (kk p e s m args below meth c hC hX H la locs hH hS hL)
theorem tl_isub {x y : Int32} (hd : decode M.2.1 pc = .ok (.isub, 1)) (kk : tl_R E M X Z k n HP (pc + 1) ls (.int (x - y) :: st)) : tl_R E M X Z k n HP pc ls (.int y :: .int x :: st) :=
  fun p e s m args below meth c hC hX H la locs hH hS hL => lv_isub hC.1 hC.2.1 hd (kk p e s m args below meth c hC hX H la locs hH hS hL)
theorem tl_imul {x y : Int32} (hd : decode M.2.1 pc = .ok (.imul, 1)) (kk : tl_R E M X Z k n HP (pc + 1) ls (.int (x * y) :: st)) : tl_R E M X Z k n HP pc ls (.int y :: .int x :: st) :=
  fun p e s m args below meth c hC hX H la locs hH hS hL => lv_imul hC.1 hC.2.1 hd (kk p e s m args below meth c hC hX H la locs hH hS hL)
theorem tl_iand {x y : Int32} (hd : decode M.2.1 pc = .ok (.iand, 1)) (kk : tl_R E M X Z k n HP (pc + 1) ls (.int (x &&& y) :: st)) : tl_R E M X Z k n HP pc ls (.int y :: .int x :: st) :=
  fun p e s m args below meth c hC hX H la locs hH hS hL => lv_iand hC.1 hC.2.1 hd (kk p e s m args below meth c hC hX H la locs hH hS hL)
theorem tl_idiv {x y : Int32} (hd : decode M.2.1 pc = .ok (.idiv, 1)) (hy : ¬ y = 0) (kk : tl_R E M X Z k n HP (pc + 1) ls (.int (x / y) :: st)) : tl_R E M X Z k n HP pc ls (.int y :: .int x :: st) :=
  fun p e s m args below meth c hC hX H la locs hH hS hL => lv_idiv hC.1 hC.2.1 hd hy (kk p e s m args below meth c hC hX H la locs hH hS hL)
theorem tl_irem {x y : Int32} (hd : decode M.2.1 pc = .ok (.irem, 1)) (hy : ¬ y = 0) (kk : tl_R E M X Z k n HP (pc + 1) ls (.int (x - x / y * y) :: st)) : tl_R E M X Z k n HP pc ls (.int y :: .int x :: st) :=
  fun p e s m args below meth c hC hX H la locs hH hS hL => lv_irem hC.1 hC.2.1 hd hy (kk p e s m args below meth c hC hX H la locs hH hS hL)
theorem tl_ineg {x : Int32} (hd : decode M.2.1 pc = .ok (.ineg, 1)) (kk : tl_R E M X Z k n HP (pc + 1) ls (.int (-x) :: st)) : tl_R E M X Z k n HP pc ls (.int x :: st) :=
  fun p e s m args below meth c hC hX H la locs hH hS hL => lv_ineg hC.1 hC.2.1 hd (kk p e s m args below meth c hC hX H la locs hH hS hL)
theorem tl_ladd {x y : Int64} (hd : decode M.2.1 pc = .ok (.ladd, 1)) (kk : tl_R E M X Z k n HP (pc + 1) ls (.long (x + y) :: st)) : tl_R E M X Z k n HP pc ls (.long y :: .long x :: st) :=
  fun p e s m args below meth c hC hX H la locs hH hS hL => lv_ladd hC.1 hC.2.1 hd (kk p e s m args below meth c hC hX H la locs hH hS hL)
theorem tl_lsub {x y : Int64} (hd : decode M.2.1 pc = .ok (.lsub, 1)) (kk : tl_R E M X Z k n HP (pc + 1) ls (.long (x - y) :: st)) : tl_R E M X Z k n HP pc ls (.long y :: .long x :: st) :=
  fun p e s m args below meth c hC hX H la locs hH hS hL => lv_lsub hC.1 hC.2.1 hd (kk p e s m args below meth c hC hX H la locs hH hS hL)
theorem tl_lmul {x y : Int64} (hd : decode M.2.1 pc = .ok (.lmul, 1)) (kk : tl_R E M X Z k n HP (pc + 1) ls (.long (x * y) :: st)) : tl_R E M X Z k n HP pc ls (.long y :: .long x :: st) :=
  fun p e s m args below meth c hC hX H la locs hH hS hL => lv_lmul hC.1 hC.2.1 hd (kk p e s m args below meth c hC hX H la locs hH hS hL)
theorem tl_land {x y : Int64} (hd : decode M.2.1 pc = .ok (.land, 1)) (kk : tl_R E M X Z k n HP (pc + 1) ls (.long (x &&& y) :: st)) : tl_R E M X Z k n HP pc ls (.long y :: .long x :: st) :=
  fun p e s m args below meth c hC hX H la locs hH hS hL => lv_land hC.1 hC.2.1 hd (kk p e s m args below meth c hC hX H la locs hH hS hL)
theorem tl_lor {x y : Int64} (hd : decode M.2.1 pc = .ok (.lor, 1)) (kk : tl_R E M X Z k n HP (pc + 1) ls (.long (x ||| y) :: st)) : tl_R E M X Z k n HP pc ls (.long y :: .long x :: st) :=
  fun p e s m args below meth c hC hX H la locs hH hS hL => lv_lor hC.1 hC.2.1 hd (kk p e s m args below meth c hC hX H la locs hH hS hL)
theorem tl_ldiv {x y : Int64} (hd : decode M.2.1 pc = .ok (.ldiv, 1)) (hy : ¬ y = 0) (kk : tl_R E M X Z k n HP (pc + 1) ls (.long (x / y) :: st)) : tl_R E M X Z k n HP pc ls (.long y :: .long x :: st) :=
  fun p e s m args below meth c hC hX H la locs hH hS hL => lv_ldiv hC.1 hC.2.1 hd hy (kk p e s m args below meth c hC hX H la locs hH hS hL)
theorem tl_lrem {x y : Int64} (hd : decode M.2.1 pc = .ok (.lrem, 1)) (hy : ¬ y = 0) (kk : tl_R E M X Z k n HP (pc + 1) ls (.long (x - x / y * y) :: st)) : tl_R E M X Z k n HP pc ls (.long y :: .long x :: st) :=
  fun p e s m args below meth c hC hX H la locs hH hS hL => lv_lrem hC.1 hC.2.1 hd hy (kk p e s m args below meth c hC hX H la locs hH hS hL)
theorem tl_lushr {x : Int64} {y : Int32} (hd : decode M.2.1 pc = .ok (.lushr, 1)) (kk : tl_R E M X Z k n HP (pc + 1) ls (.long ((x.toUInt64 >>> (y.toInt64.toUInt64 &&& Int64.toUInt64 63)).toInt64) :: st)) : tl_R E M X Z k n HP pc ls (.int y :: .long x :: st) :=
  fun p e s m args below meth c hC hX H la locs hH hS hL => lv_lushr hC.1 hC.2.1 hd rfl (kk p e s m args below meth c hC hX H la locs hH hS hL)
theorem tl_lshl {x : Int64} {y : Int32} (hd : decode M.2.1 pc = .ok (.lshl, 1)) (kk : tl_R E M X Z k n HP (pc + 1) ls (.long (x <<< (y.toInt64 &&& 63)) :: st)) : tl_R E M X Z k n HP pc ls (.int y :: .long x :: st) :=
  fun p e s m args below meth c hC hX H la locs hH hS hL => lv_lshl hC.1 hC.2.1 hd rfl (kk p e s m args below meth c hC hX H la locs hH hS hL)
theorem tl_i2l {x : Int32} (hd : decode M.2.1 pc = .ok (.i2l, 1)) (kk : tl_R E M X Z k n HP (pc + 1) ls (.long x.toInt64 :: st)) : tl_R E M X Z k n HP pc ls (.int x :: st) :=
  fun p e s m args below meth c hC hX H la locs hH hS hL => lv_i2l hC.1 hC.2.1 hd rfl (kk p e s m args below meth c hC hX H la locs hH hS hL)
theorem tl_l2i {x : Int64} (hd : decode M.2.1 pc = .ok (.l2i, 1)) (kk : tl_R E M X Z k n HP (pc + 1) ls (.int x.toInt32 :: st)) : tl_R E M X Z k n HP pc ls (.long x :: st) :=
  fun p e s m args below meth c hC hX H la locs hH hS hL => lv_l2i hC.1 hC.2.1 hd rfl (kk p e s m args below meth c hC hX H la locs hH hS hL)
theorem tl_i2c {x : Int32} (hd : decode M.2.1 pc = .ok (.i2c, 1)) (kk : tl_R E M X Z k n HP (pc + 1) ls (.int (x.toUInt32 % 65536).toInt32 :: st)) : tl_R E M X Z k n HP pc ls (.int x :: st) :=
  fun p e s m args below meth c hC hX H la locs hH hS hL => lv_i2c hC.1 hC.2.1 hd rfl (kk p e s m args below meth c hC hX H la locs hH hS hL)
theorem tl_lcmp {x y : Int64} (hd : decode M.2.1 pc = .ok (.lcmp, 1)) (kk : tl_R E M X Z k n HP (pc + 1) ls (.int (lg_cmp x y) :: st)) : tl_R E M X Z k n HP pc ls (.long y :: .long x :: st) :=
  fun p e s m args below meth c hC hX H la locs hH hS hL => W.lcmp hC.1 hC.2.1 hd (kk p e s m args below meth c hC hX H la locs hH hS hL)
theorem tl_dup2 {u v : Value} (hd : decode M.2.1 pc = .ok (.dup2, 1)) (hu : u.category = 1) (hc : v.category = 1) (kk : tl_R E M X Z k n HP (pc + 1) ls (u :: v :: u :: v :: st)) : tl_R E M X Z k n HP pc ls (u :: v :: st) :=
  fun p e s m args below meth c hC hX H la locs hH hS hL => lv_dup2_11 hC.1 hC.2.1 hd hu hc (kk p e s m args below meth c hC hX H la locs hH hS hL)
theorem tl_dup {v : Value} (hd : decode M.2.1 pc = .ok (.dup, 1)) (hc : v.category = 1) (kk : tl_R E M X Z k n HP (pc + 1) ls (v :: v :: st)) : tl_R E M X Z k n HP pc ls (v :: st) :=
  fun p e s m args below meth c hC hX H la locs hH hS hL => lv_dup hC.1 hC.2.1 hd hc (kk p e s m args below meth c hC hX H la locs hH hS hL)
theorem tl_pop {v : Value} (hd : decode M.2.1 pc = .ok (.pop, 1)) (hc : v.category = 1) (kk : tl_R E M X Z k n HP (pc + 1) ls (st)) : tl_R E M X Z k n HP pc ls (v :: st) :=
  fun p e s m args below meth c hC hX H la locs hH hS hL => lv_pop hC.1 hC.2.1 hd hc (kk p e s m args below meth c hC hX H la locs hH hS hL)
theorem tl_ldc2 {i : Nat} {v : Int64} (hd : decode M.2.1 pc = .ok (.ldc2_w i, 3)) (hw : Cond.constantLong M.1.cls i v ∈ tl_GW) (kk : tl_R E M X Z k n HP (pc + 3) ls (.long v :: st)) : tl_R E M X Z k n HP pc ls (st) :=
  fun p e s m args below meth c hC hX H la locs hH hS hL => lv_ldc2 hC.1 hC.2.1 hC.2.2.2.2.1 (hC.2.2.2.2.2.1 _ hw) hd (kk p e s m args below meth c hC hX H la locs hH hS hL)
theorem tl_ldc {i : Nat} {v : Int32} (hd : decode M.2.1 pc = .ok (.ldc i, 2)) (hw : Cond.constant M.1.cls i v ∈ tl_GW) (kk : tl_R E M X Z k n HP (pc + 2) ls (.int v :: st)) : tl_R E M X Z k n HP pc ls (st) :=
  fun p e s m args below meth c hC hX H la locs hH hS hL => lv_ldc hC.1 hC.2.1 hC.2.2.2.2.1 (hC.2.2.2.2.2.1 _ hw) hd (kk p e s m args below meth c hC hX H la locs hH hS hL)
theorem tl_if_eq {x : Int32} {off : Int} {tgt : Nat} (hd : decode M.2.1 pc = .ok (.ifCond .eq off, 3)) (ht : (pc : Int) + off = (tgt : Int)) (kt : x = 0 → tl_R E M X Z k n HP tgt ls st) (kf : ¬ x = 0 → tl_R E M X Z k n HP (pc + 3) ls st) : tl_R E M X Z k n HP pc ls (.int x :: st) :=
  fun p e s m args below meth c hC hX H la locs hH hS hL => lv_if_eq hC.1 hC.2.1 hd ht (fun h => kt h p e s m args below meth c hC hX H la locs hH hS hL) (fun h => kf h p e s m args below meth c hC hX H la locs hH hS hL)
theorem tl_if_ne {x : Int32} {off : Int} {tgt : Nat} (hd : decode M.2.1 pc = .ok (.ifCond .ne off, 3)) (ht : (pc : Int) + off = (tgt : Int)) (kt : ¬ x = 0 → tl_R E M X Z k n HP tgt ls st) (kf : x = 0 → tl_R E M X Z k n HP (pc + 3) ls st) : tl_R E M X Z k n HP pc ls (.int x :: st) :=
  fun p e s m args below meth c hC hX H la locs hH hS hL => lv_if_ne hC.1 hC.2.1 hd ht (fun h => kt h p e s m args below meth c hC hX H la locs hH hS hL) (fun h => kf h p e s m args below meth c hC hX H la locs hH hS hL)
theorem tl_if_lt {x : Int32} {off : Int} {tgt : Nat} (hd : decode M.2.1 pc = .ok (.ifCond .lt off, 3)) (ht : (pc : Int) + off = (tgt : Int)) (kt : x < 0 → tl_R E M X Z k n HP tgt ls st) (kf : ¬ x < 0 → tl_R E M X Z k n HP (pc + 3) ls st) : tl_R E M X Z k n HP pc ls (.int x :: st) :=
  fun p e s m args below meth c hC hX H la locs hH hS hL => lv_if_lt hC.1 hC.2.1 hd ht (fun h => kt h p e s m args below meth c hC hX H la locs hH hS hL) (fun h => kf h p e s m args below meth c hC hX H la locs hH hS hL)
theorem tl_if_ge {x : Int32} {off : Int} {tgt : Nat} (hd : decode M.2.1 pc = .ok (.ifCond .ge off, 3)) (ht : (pc : Int) + off = (tgt : Int)) (kt : 0 ≤ x → tl_R E M X Z k n HP tgt ls st) (kf : ¬ 0 ≤ x → tl_R E M X Z k n HP (pc + 3) ls st) : tl_R E M X Z k n HP pc ls (.int x :: st) :=
  fun p e s m args below meth c hC hX H la locs hH hS hL => lv_if_ge hC.1 hC.2.1 hd ht (fun h => kt h p e s m args below meth c hC hX H la locs hH hS hL) (fun h => kf h p e s m args below meth c hC hX H la locs hH hS hL)
theorem tl_if_gt {x : Int32} {off : Int} {tgt : Nat} (hd : decode M.2.1 pc = .ok (.ifCond .gt off, 3)) (ht : (pc : Int) + off = (tgt : Int)) (kt : 0 < x → tl_R E M X Z k n HP tgt ls st) (kf : ¬ 0 < x → tl_R E M X Z k n HP (pc + 3) ls st) : tl_R E M X Z k n HP pc ls (.int x :: st) :=
  fun p e s m args below meth c hC hX H la locs hH hS hL => lv_if_gt hC.1 hC.2.1 hd ht (fun h => kt h p e s m args below meth c hC hX H la locs hH hS hL) (fun h => kf h p e s m args below meth c hC hX H la locs hH hS hL)
theorem tl_if_le {x : Int32} {off : Int} {tgt : Nat} (hd : decode M.2.1 pc = .ok (.ifCond .le off, 3)) (ht : (pc : Int) + off = (tgt : Int)) (kt : x ≤ 0 → tl_R E M X Z k n HP tgt ls st) (kf : ¬ x ≤ 0 → tl_R E M X Z k n HP (pc + 3) ls st) : tl_R E M X Z k n HP pc ls (.int x :: st) :=
  fun p e s m args below meth c hC hX H la locs hH hS hL => lv_if_le hC.1 hC.2.1 hd ht (fun h => kt h p e s m args below meth c hC hX H la locs hH hS hL) (fun h => kf h p e s m args below meth c hC hX H la locs hH hS hL)
theorem tl_icmp_eq {x y : Int32} {off : Int} {tgt : Nat} (hd : decode M.2.1 pc = .ok (.if_icmp .eq off, 3)) (ht : (pc : Int) + off = (tgt : Int)) (kt : x = y → tl_R E M X Z k n HP tgt ls st) (kf : ¬ x = y → tl_R E M X Z k n HP (pc + 3) ls st) : tl_R E M X Z k n HP pc ls (.int y :: .int x :: st) :=
  fun p e s m args below meth c hC hX H la locs hH hS hL => lv_icmp_eq hC.1 hC.2.1 hd ht (fun h => kt h p e s m args below meth c hC hX H la locs hH hS hL) (fun h => kf h p e s m args below meth c hC hX H la locs hH hS hL)
theorem tl_icmp_ne {x y : Int32} {off : Int} {tgt : Nat} (hd : decode M.2.1 pc = .ok (.if_icmp .ne off, 3)) (ht : (pc : Int) + off = (tgt : Int)) (kt : ¬ x = y → tl_R E M X Z k n HP tgt ls st) (kf : x = y → tl_R E M X Z k n HP (pc + 3) ls st) : tl_R E M X Z k n HP pc ls (.int y :: .int x :: st) :=
  fun p e s m args below meth c hC hX H la locs hH hS hL => lv_icmp_ne hC.1 hC.2.1 hd ht (fun h => kt h p e s m args below meth c hC hX H la locs hH hS hL) (fun h => kf h p e s m args below meth c hC hX H la locs hH hS hL)
theorem tl_icmp_lt {x y : Int32} {off : Int} {tgt : Nat} (hd : decode M.2.1 pc = .ok (.if_icmp .lt off, 3)) (ht : (pc : Int) + off = (tgt : Int)) (kt : x < y → tl_R E M X Z k n HP tgt ls st) (kf : ¬ x < y → tl_R E M X Z k n HP (pc + 3) ls st) : tl_R E M X Z k n HP pc ls (.int y :: .int x :: st) :=
  fun p e s m args below meth c hC hX H la locs hH hS hL => lv_icmp_lt hC.1 hC.2.1 hd ht (fun h => kt h p e s m args below meth c hC hX H la locs hH hS hL) (fun h => kf h p e s m args below meth c hC hX H la locs hH hS hL)
theorem tl_icmp_ge {x y : Int32} {off : Int} {tgt : Nat} (hd : decode M.2.1 pc = .ok (.if_icmp .ge off, 3)) (ht : (pc : Int) + off = (tgt : Int)) (kt : y ≤ x → tl_R E M X Z k n HP tgt ls st) (kf : ¬ y ≤ x → tl_R E M X Z k n HP (pc + 3) ls st) : tl_R E M X Z k n HP pc ls (.int y :: .int x :: st) :=
  fun p e s m args below meth c hC hX H la locs hH hS hL => lv_icmp_ge hC.1 hC.2.1 hd ht (fun h => kt h p e s m args below meth c hC hX H la locs hH hS hL) (fun h => kf h p e s m args below meth c hC hX H la locs hH hS hL)
theorem tl_icmp_gt {x y : Int32} {off : Int} {tgt : Nat} (hd : decode M.2.1 pc = .ok (.if_icmp .gt off, 3)) (ht : (pc : Int) + off = (tgt : Int)) (kt : y < x → tl_R E M X Z k n HP tgt ls st) (kf : ¬ y < x → tl_R E M X Z k n HP (pc + 3) ls st) : tl_R E M X Z k n HP pc ls (.int y :: .int x :: st) :=
  fun p e s m args below meth c hC hX H la locs hH hS hL => lv_icmp_gt hC.1 hC.2.1 hd ht (fun h => kt h p e s m args below meth c hC hX H la locs hH hS hL) (fun h => kf h p e s m args below meth c hC hX H la locs hH hS hL)
theorem tl_icmp_le {x y : Int32} {off : Int} {tgt : Nat} (hd : decode M.2.1 pc = .ok (.if_icmp .le off, 3)) (ht : (pc : Int) + off = (tgt : Int)) (kt : x ≤ y → tl_R E M X Z k n HP tgt ls st) (kf : ¬ x ≤ y → tl_R E M X Z k n HP (pc + 3) ls st) : tl_R E M X Z k n HP pc ls (.int y :: .int x :: st) :=
  fun p e s m args below meth c hC hX H la locs hH hS hL => lv_icmp_le hC.1 hC.2.1 hd ht (fun h => kt h p e s m args below meth c hC hX H la locs hH hS hL) (fun h => kf h p e s m args below meth c hC hX H la locs hH hS hL)
theorem tl_goto {off : Int} {tgt : Nat} (hd : decode M.2.1 pc = .ok (.goto off, 3)) (ht : (pc : Int) + off = (tgt : Int)) (kk : tl_R E M X Z k n HP tgt ls st) : tl_R E M X Z k n HP pc ls st :=
  fun p e s m args below meth c hC hX H la locs hH hS hL => lv_goto hC.1 hC.2.1 hd ht (kk p e s m args below meth c hC hX H la locs hH hS hL)
theorem tl_tableIn {dflt lo hi : Int} {offs : Array Int} {len : Nat} {x : Int32} {off : Int} {tgt : Nat} (hd : decode M.2.1 pc = .ok (.tableswitch dflt lo hi offs, len)) (h1 : ¬ x.toInt < lo) (h2 : ¬ hi < x.toInt) (ho : offs[(x.toInt - lo).toNat]? = some off) (ht : (pc : Int) + off = (tgt : Int)) (kk : tl_R E M X Z k n HP tgt ls st) : tl_R E M X Z k n HP pc ls (.int x :: st) :=
  fun p e s m args below meth c hC hX H la locs hH hS hL => lv_tableIn hC.1 hC.2.1 hd h1 h2 ho ht (kk p e s m args below meth c hC hX H la locs hH hS hL)
theorem tl_tableOut {dflt lo hi : Int} {offs : Array Int} {len : Nat} {x : Int32} {tgt : Nat} (hd : decode M.2.1 pc = .ok (.tableswitch dflt lo hi offs, len)) (h : x.toInt < lo ∨ hi < x.toInt) (ht : (pc : Int) + dflt = (tgt : Int)) (kk : tl_R E M X Z k n HP tgt ls st) : tl_R E M X Z k n HP pc ls (.int x :: st) :=
  fun p e s m args below meth c hC hX H la locs hH hS hL => lv_tableOut hC.1 hC.2.1 hd h ht (kk p e s m args below meth c hC hX H la locs hH hS hL)
theorem tl_lookup {dflt : Int} {ps : Array (Int × Int)} {len : Nat} {x : Int32} {off : Int} {tgt : Nat} (hd : decode M.2.1 pc = .ok (.lookupswitch dflt ps, len)) (hp : (ps.toList.zip (ps.toList.drop 1)).all (fun (a, next) => a.1 < next.1) = true) (ho : Op.lookupswitch.offset ps.toList dflt x.toInt = off) (ht : (pc : Int) + off = (tgt : Int)) (kk : tl_R E M X Z k n HP tgt ls st) : tl_R E M X Z k n HP pc ls (.int x :: st) :=
  fun p e s m args below meth c hC hX H la locs hH hS hL => lv_lookup hC.1 hC.2.1 hd hp ho ht (kk p e s m args below meth c hC hX H la locs hH hS hL)
end TLR
end
section
/-! The world as numbers by address and place: objects' fields, arrays' elements; what the references are is fixed by the address, but for the rows of orders. -/
abbrev tl_S : Type := (Nat → Nat → Int32) × (Nat → Nat → Nat) × (Nat → Nat → Int64)
def tl_u (I : Nat → Nat → Int32) (a k : Nat) (x : Int32) : Nat → Nat → Int32 := fun q j => if q = a ∧ j = k then x else I q j
def tl_uO (O : Nat → Nat → Nat) (a k v : Nat) : Nat → Nat → Nat := fun q j => if q = a ∧ j = k then v else O q j
def tl_uL (L : Nat → Nat → Int64) (a k : Nat) (x : Int64) : Nat → Nat → Int64 := fun q j => if q = a ∧ j = k then x else L q j
def tl_n : Nat → Nat
  | 0 => 5 | 1 => 2 | 2 => 3 | 3 => 7 | 4 => 4 | 5 => 16 | 6 => 3 | 7 => 4 | 8 => 5 | 9 => 8 | _ => 11
def tl_off : Nat → Nat → Option Nat
  | 2, 0 => some 1
  | 3, 0 => some 1
  | 5, 0 => some 1
  | 5, 1 => some 2
  | 5, 2 => some 3
  | 5, 3 => some 4
  | 6, 0 => some 1
  | 9, 0 => some 1
  | 9, 1 => some 3
  | 9, 2 => some 4
  | 9, 3 => some 33
  | 9, 4 => some 62
  | 9, 5 => some 91
  | 9, 6 => some 499
  | 9, 7 => some 500
  | 10, 1 => some 1
  | 10, 3 => some 2
  | 10, 4 => some 3
  | 10, 5 => some 4
  | 10, 7 => some 5
  | 10, 8 => some 6
  | _, _ => none
def tl_fv (K a : Nat) (I : Nat → Nat → Int32) (k : Nat) : Value := match tl_off K k with
  | some o => .ref (a + o)
  | none => .int (I a k)
def tl_fs (K a : Nat) (I : Nat → Nat → Int32) : List Value := (List.range (tl_n K)).map (tl_fv K a I)
def tl_ce (dA : Nat → ClassId) : Nat → Nat → tl_S → va_E
  | 11, a, u => .inl (dA 1, 120, .inl (u.1 a))
  | 12, a, u => .inl (dA 0, 120, .inl (u.1 a))
  | 13, a, u => .inl (dA 0, 104, .inl (u.1 a))
  | 14, a, u => .inl (dA 0, 1456, .inl (u.1 a))
  | 15, a, u => .inl (dA 0, 208, .inl (u.1 a))
  | 16, a, u => .inl (dA 2, 2, .inl (u.1 a))
  | 17, a, u => .inl (dA 3, 1, .inr (.inl (u.2.2 a)))
  | 18, a, _ => .inl (dA 4, 3, .inr (.inr (.inr (.inr (fun j => some (a + 11 + j))))))
  | 19, a, _ => .inl (dA 5, 6, .inr (.inr (.inr (.inr (fun j => some (a + 13 + j))))))
  | 20, a, _ => .inl (dA 6, 8, .inr (.inr (.inr (.inr (fun j => some (a + 18 + j))))))
  | 21, a, u => .inl (dA 7, 6, .inr (.inr (.inr (.inr (fun j => some (u.2.1 a j))))))
  | 22, a, _ => .inl (dA 8, 14, .inr (.inr (.inr (.inr (fun j => some (a + 1 + 29 * j))))))
  | 23, a, _ => .inl (dA 8, 2, .inr (.inr (.inr (.inr (fun j => some (a + 2 + 29 * j))))))
  | K, a, u => .inr (K, tl_fs K a u.1)
theorem tl_ce_c {dA : Nat → ClassId} {K a : Nat} {u v : tl_S} (h1 : u.1 a = v.1 a) (h2 : u.2.1 a = v.2.1 a) (h3 : u.2.2 a = v.2.2 a) : tl_ce dA K a u = tl_ce dA K a v := by
  have h4 : tl_fs K a u.1 = tl_fs K a v.1 := by
    unfold tl_fs
    congr 1
    funext k
    unfold tl_fv
    rw [h1]
  unfold tl_ce
  split <;> simp only [h1, h2, h3, h4]
def tl_mk : List Nat := [5, 18, 19, 20, 3, 21, 8, 8, 8, 8, 8, 8, 1, 1, 1, 7, 7, 7, 7, 7, 7, 4, 4, 4, 4, 4, 4, 4, 4]
def tl_kinds : List Nat := [9, 6, 11, 0] ++ (tl_mk ++ tl_mk ++ tl_mk) ++ [2, 22] ++ (tl_mk ++ tl_mk ++ tl_mk ++ tl_mk ++ tl_mk ++ tl_mk ++ tl_mk ++ tl_mk ++ tl_mk ++ tl_mk ++ tl_mk ++ tl_mk ++ tl_mk ++ tl_mk) ++ [23, 16] ++ (tl_mk ++ tl_mk) ++ [10, 12, 13, 13, 14, 15, 16, 17]
/-- the kind of the thing at the address q, of a world that begins at z -/
def tl_T (z q : Nat) : Option Nat := if z ≤ q then tl_kinds[q - z]? else none
theorem tl_T_le {z q K : Nat} (h : tl_T z q = some K) : z ≤ q := by
  unfold tl_T at h
  split at h
  · assumption
  · cases h
def tl_HB (E : tl_E) (u : tl_S) (H : Heap) : Prop := ∀ (q K : Nat), tl_T E.2.1 q = some K → va_at E.2.2.1 vwCl (q, tl_ce E.2.2.2 K q u) H
theorem tl_HB_put {E : tl_E} {u v : tl_S} {H H1 : Heap} {a K : Nat} (h : tl_HB E u H) (hT : tl_T E.2.1 a = some K) (hnew : va_at E.2.2.1 vwCl (a, tl_ce E.2.2.2 K a v) H1) (ho : ∀ q : Nat, q ≠ a → H1[q]? = H[q]?)
    (h1 : ∀ q, q ≠ a → u.1 q = v.1 q) (h2 : ∀ q, q ≠ a → u.2.1 q = v.2.1 q) (h3 : ∀ q, q ≠ a → u.2.2 q = v.2.2 q) : tl_HB E v H1 := by
  intro q K1 hq
  by_cases e : q = a
  · subst e
    cases hT.symm.trans hq
    exact hnew
  · rw [← tl_ce_c (h1 q e) (h2 q e) (h3 q e)]
    exact (h q K1 hq).kept (ho q e)
theorem tl_P1 {D : va_G} {a : Nat} {e : va_E} {H : Heap} (h : va_at D vwCl (a, e) H) : va_P D vwCl [(a, e)] H := by
  intro k q hk
  match k, hk with
  | 0, hk => cases hk; exact h
/-- a class of the table: its row, its words, its fields' types and names -/
def tl_ck (K : Nat) (C : String) (T : u_T) (N : Nat) (ty : Nat → FieldType) : Prop := K < 11 ∧ vwCl[K]? = some (C, T, N) ∧ (∀ w ∈ u_ws C T N, w ∈ tl_GW) ∧ (∀ k, k < N → parseFieldDescriptor (T k).2.2.1 = some (ty k)) ∧ (∀ a, a < N → ∀ b, b < N → a ≠ b → (T a).2.1 ≠ (T b).2.1) ∧ N = tl_n K
theorem tl_ck0 : tl_ck 0 RX0 TX0 5 tyX0 := ⟨by decide, rfl, fun w hw => tl_inGW ((by decide +kernel : ∀ w ∈ u_ws RX0 TX0 5, w ∈ tables_1) w hw) ((by decide +kernel : ∀ w ∈ u_ws RX0 TX0 5, goodWord w = true) w hw), tyX0_ok, nmX0, rfl⟩
theorem tl_ck1 : tl_ck 1 RX1 TX1 2 tyX1 := ⟨by decide, rfl, fun w hw => tl_inGW ((by decide +kernel : ∀ w ∈ u_ws RX1 TX1 2, w ∈ tables_1) w hw) ((by decide +kernel : ∀ w ∈ u_ws RX1 TX1 2, goodWord w = true) w hw), tyX1_ok, nmX1, rfl⟩
theorem tl_ck2 : tl_ck 2 RX2 TX2 3 tyX2 := ⟨by decide, rfl, fun w hw => tl_inGW ((by decide +kernel : ∀ w ∈ u_ws RX2 TX2 3, w ∈ tables_1) w hw) ((by decide +kernel : ∀ w ∈ u_ws RX2 TX2 3, goodWord w = true) w hw), tyX2_ok, nmX2, rfl⟩
theorem tl_ck3 : tl_ck 3 RX3 TX3 7 tyX3 := ⟨by decide, rfl, fun w hw => tl_inGW ((by decide +kernel : ∀ w ∈ u_ws RX3 TX3 7, w ∈ tables_1) w hw) ((by decide +kernel : ∀ w ∈ u_ws RX3 TX3 7, goodWord w = true) w hw), tyX3_ok, nmX3, rfl⟩
theorem tl_ck4 : tl_ck 4 RX4 TX4 4 tyX4 := ⟨by decide, rfl, fun w hw => tl_inGW ((by decide +kernel : ∀ w ∈ u_ws RX4 TX4 4, w ∈ tables_1) w hw) ((by decide +kernel : ∀ w ∈ u_ws RX4 TX4 4, goodWord w = true) w hw), tyX4_ok, nmX4, rfl⟩
theorem tl_ck5 : tl_ck 5 RX5 TX5 16 tyX5 := ⟨by decide, rfl, fun w hw => tl_inGW ((by decide +kernel : ∀ w ∈ u_ws RX5 TX5 16, w ∈ tables_1) w hw) ((by decide +kernel : ∀ w ∈ u_ws RX5 TX5 16, goodWord w = true) w hw), tyX5_ok, nmX5, rfl⟩
theorem tl_ck6 : tl_ck 6 RX6 TX6 3 tyX6 := ⟨by decide, rfl, fun w hw => tl_inGW ((by decide +kernel : ∀ w ∈ u_ws RX6 TX6 3, w ∈ tables_1) w hw) ((by decide +kernel : ∀ w ∈ u_ws RX6 TX6 3, goodWord w = true) w hw), tyX6_ok, nmX6, rfl⟩
theorem tl_ck7 : tl_ck 7 RX7 TX7 4 tyX7 := ⟨by decide, rfl, fun w hw => tl_inGW ((by decide +kernel : ∀ w ∈ u_ws RX7 TX7 4, w ∈ tables_1) w hw) ((by decide +kernel : ∀ w ∈ u_ws RX7 TX7 4, goodWord w = true) w hw), tyX7_ok, nmX7, rfl⟩
theorem tl_ck8 : tl_ck 8 RX8 TX8 5 tyX8 := ⟨by decide, rfl, fun w hw => tl_inGW ((by decide +kernel : ∀ w ∈ u_ws RX8 TX8 5, w ∈ tables_1) w hw) ((by decide +kernel : ∀ w ∈ u_ws RX8 TX8 5, goodWord w = true) w hw), tyX8_ok, nmX8, rfl⟩
theorem tl_ck9 : tl_ck 9 RX9 TX9 8 tyX9 := ⟨by decide, rfl, fun w hw => tl_inGW ((by decide +kernel : ∀ w ∈ u_ws RX9 TX9 8, w ∈ tables_1) w hw) ((by decide +kernel : ∀ w ∈ u_ws RX9 TX9 8, goodWord w = true) w hw), tyX9_ok, nmX9, rfl⟩
theorem tl_ck10 : tl_ck 10 RX10 TX10 11 tyX10 := ⟨by decide, rfl, fun w hw => tl_inGW ((by decide +kernel : ∀ w ∈ u_ws RX10 TX10 11, w ∈ tables_1) w hw) ((by decide +kernel : ∀ w ∈ u_ws RX10 TX10 11, goodWord w = true) w hw), tyX10_ok, nmX10, rfl⟩
theorem tl_ce_obj {dA : Nat → ClassId} {K a : Nat} {u : tl_S} (h : K < 11) : tl_ce dA K a u = .inr (K, tl_fs K a u.1) := by
  unfold tl_ce
  split <;> first | omega | rfl
theorem tl_fs_at {K a k : Nat} {I : Nat → Nat → Int32} (h : k < tl_n K) : (tl_fs K a I)[k]? = some (tl_fv K a I k) := by
  simp [tl_fs, h]
theorem tl_fs_set {K a k : Nat} {I : Nat → Nat → Int32} {x : Int32} (ho : tl_off K k = none) : (tl_fs K a I).set k (.int x) = tl_fs K a (tl_u I a k x) := by
  apply List.ext_getElem
  · simp [tl_fs]
  · intro j h1 h2
    simp only [List.getElem_set, tl_fs, List.getElem_map, List.getElem_range]
    by_cases e : k = j
    · subst e
      simp [tl_fv, ho, tl_u]
    · simp only [e, if_false]
      unfold tl_fv
      split
      · rfl
      · simp [tl_u, Ne.symm e]
section TLH
variable {E : tl_E} {M : tl_M} {X : State → Array Value → Code → Prop} {Z : List Frame → Array Value → State → State → Prop} {k n pc a : Nat} {u : tl_S} {ls : List (Option Value)} {st : List Value}
theorem tl_getf {K f i : Nat} {C : String} {T : u_T} {N : Nat} {ty : Nat → FieldType} {v : Value} (ck : tl_ck K C T N ty) (hd : decode M.2.1 pc = .ok (.getfield i, 3)) (hw : Cond.fieldLink M.1.cls i (T f).1 (T f).2.1 (T f).2.2.1 ∈ tl_GW) (hf : f < N) (hT : tl_T E.2.1 a = some K) (hv : tl_fv K a u.1 f = v)
    (kk : tl_R E M X Z k n (tl_HB E u) (pc + 3) ls (v :: st)) : tl_R E M X Z k n (tl_HB E u) pc ls (.ref a :: st) := by
  intro p e s m args below meth c hC hX H la locs hH hS hL
  obtain ⟨c0, c1, c2, c3, c4, c5⟩ := ck
  have hat := hH a K hT
  rw [tl_ce_obj c0] at hat
  exact va_get hC.1 hC.2.1 (hC.2.2.2.2.2.1) c2 hC.2.2.2.2.1 hC.2.2.2.2.2.2.2.2.1.1 (tl_P1 hat) 0 rfl c1 f hf (hC.2.2.2.2.2.1 _ hw) (fun _ h => h) (by rw [← hv]; exact tl_fs_at (by omega)) hd (kk p e s m args below meth c hC hX H la locs hH hS hL)
theorem tl_put {K f i : Nat} {C : String} {T : u_T} {N : Nat} {ty : Nat → FieldType} {x : Int32} (ck : tl_ck K C T N ty) (hd : decode M.2.1 pc = .ok (.putfield i, 3)) (hw : Cond.fieldLink M.1.cls i (T f).1 (T f).2.1 (T f).2.2.1 ∈ tl_GW) (hf : f < N) (hfin : (T f).2.2.2 = false) (ho : tl_off K f = none)
    (hn : narrow (ty f) (.int x) = .int x) (hfit : fits (ty f) (.int x) = true) (hT : tl_T E.2.1 a = some K)
    (kk : tl_R E M X Z k n (tl_HB E (tl_u u.1 a f x, u.2)) (pc + 3) ls st) : tl_R E M X Z k n (tl_HB E u) pc ls (.int x :: .ref a :: st) := by
  intro p e s m args below meth c hC hX H la locs hH hS hL
  obtain ⟨c0, c1, c2, c3, c4, c5⟩ := ck
  have hts := hC.2.2.2.2.2.1
  have hK := hC.2.2.2.2.2.2.2.2.1.1
  have hat := hH a K hT
  rw [tl_ce_obj c0] at hat
  have hap := va_apart (own := M.1.cls) hts c2 ty c3 c4 hK c1
  obtain ⟨r, h1, cell, q1, q2, q3, q4⟩ := hat
  have hr : r = (C, T, N) := Option.some.inj (h1.symm.trans c1)
  subst hr
  obtain ⟨hSl, hfc, kC, hkC, hkind⟩ := hK.1 K _ c1
  obtain ⟨cf, kf, fi, fd, hi, hsl⟩ := hSl f hf
  have hlay := hts _ (c2 _ (u_in_lay hf))
  unfold u_lay at hlay
  rw [if_neg (by rw [hfin]; decide)] at hlay
  have hst := (u_facts hfc hkC (u_lays hts c2 hf) hi).1
  have h6 := u_store hfc hkC hkind hlay hi (c3 f hf) hn hfit
  refine W.putK hC.1 hC.2.1 (f := fd) ⟨hC.2.2.2.2.1, hts _ hw, ⟨_, _, _, hi⟩, hst⟩ (by rw [q2]; exact h6) q1 q3 (by rw [hsl]; exact k2_hasslot (q4 f hf)) rfl rfl hd fun H' e1 e2 e3 => ?_
  rw [hsl] at e1 ⊢
  refine kk p e s m args below meth c hC hX H' la _ ?_ (hS.put e2 e3 (tl_T_le hT)) hL
  refine tl_HB_put hH hT ?_ e3 (fun q hq => by funext j; simp [tl_u, hq]) (fun _ _ => rfl) (fun _ _ => rfl)
  rw [tl_ce_obj c0]
  refine ⟨_, c1, t_OB.to (V := updV (vp_V (tl_fs K a u.1)) f (.int x)) ⟨_, e1, q2, q3, t_set q4 hap hf (.int x)⟩ (fun j _ => ?_)⟩
  rw [vp_updV_set (by simp [tl_fs]; omega), tl_fs_set ho]
theorem tl_iald {K N j : Nat} {i : Int32} (hce : ∀ (dA : Nat → ClassId) (u : tl_S), tl_ce dA K a u = .inl (dA 0, N, .inl (u.1 a))) (hd : decode M.2.1 pc = .ok (.iaload, 1)) (hT : tl_T E.2.1 a = some K) (hin : vp_in i N) (hj : i.toNatClampNeg = j)
    (kk : tl_R E M X Z k n (tl_HB E u) (pc + 1) ls (.int (u.1 a j) :: st)) : tl_R E M X Z k n (tl_HB E u) pc ls (.int i :: .ref a :: st) := by
  intro p e s m args below meth c hC hX H la locs hH hS hL
  have hat := hH a K hT
  rw [hce] at hat
  subst hj
  exact va_iald hC.1 hC.2.1 hC.2.2.2.2.2.2.2.2.1.1 (tl_P1 hat) 0 0 rfl rfl hin hd (kk p e s m args below meth c hC hX H la locs hH hS hL)
theorem tl_cald {K N j : Nat} {i : Int32} (hce : ∀ (dA : Nat → ClassId) (u : tl_S), tl_ce dA K a u = .inl (dA 1, N, .inl (u.1 a))) (hd : decode M.2.1 pc = .ok (.caload, 1)) (hT : tl_T E.2.1 a = some K) (hin : vp_in i N) (hj : i.toNatClampNeg = j)
    (kk : tl_R E M X Z k n (tl_HB E u) (pc + 1) ls (.int (u.1 a j) :: st)) : tl_R E M X Z k n (tl_HB E u) pc ls (.int i :: .ref a :: st) := by
  intro p e s m args below meth c hC hX H la locs hH hS hL
  have hat := hH a K hT
  rw [hce] at hat
  subst hj
  exact va_cald hC.1 hC.2.1 hC.2.2.2.2.2.2.2.2.1.1 (tl_P1 hat) 0 1 rfl rfl hin hd (kk p e s m args below meth c hC hX H la locs hH hS hL)
theorem tl_zald {K N j : Nat} {i : Int32} (hce : ∀ (dA : Nat → ClassId) (u : tl_S), tl_ce dA K a u = .inl (dA 2, N, .inl (u.1 a))) (hd : decode M.2.1 pc = .ok (.baload, 1)) (hT : tl_T E.2.1 a = some K) (hin : vp_in i N) (hj : i.toNatClampNeg = j)
    (kk : tl_R E M X Z k n (tl_HB E u) (pc + 1) ls (.int (u.1 a j) :: st)) : tl_R E M X Z k n (tl_HB E u) pc ls (.int i :: .ref a :: st) := by
  intro p e s m args below meth c hC hX H la locs hH hS hL
  have hat := hH a K hT
  rw [hce] at hat
  subst hj
  exact va_zald hC.1 hC.2.1 hC.2.2.2.2.2.2.2.2.1.1 (tl_P1 hat) 0 2 rfl rfl hin hd (kk p e s m args below meth c hC hX H la locs hH hS hL)
theorem tl_iast {K N j : Nat} {i x : Int32} (hce : ∀ (dA : Nat → ClassId) (u : tl_S), tl_ce dA K a u = .inl (dA 0, N, .inl (u.1 a))) (hd : decode M.2.1 pc = .ok (.iastore, 1)) (hT : tl_T E.2.1 a = some K) (hin : vp_in i N) (hj : i.toNatClampNeg = j) 
    (kk : tl_R E M X Z k n (tl_HB E (tl_u u.1 a j x, u.2)) (pc + 1) ls st) : tl_R E M X Z k n (tl_HB E u) pc ls (.int x :: .int i :: .ref a :: st) := by
  intro p e s m args below meth c hC hX H la locs hH hS hL
  have hat := hH a K hT
  rw [hce] at hat
  subst hj
  have hK := hC.2.2.2.2.2.2.2.2.1.1
  refine W.iast hC.1 hC.2.1 hat ((hK.2 0 _ rfl).1 N (fun j => .int (u.1 a j))) (fun q => by cases q) (by show ¬ (i < 0 ∨ (arrV _ _ _).slots.size ≤ _); rw [arrV_size]; exact hin) rfl rfl hd fun H1 e1 z oq => ?_
  refine kk p e s m args below meth c hC hX H1 la _ ?_ (hS.put z oq (tl_T_le hT)) hL
  refine tl_HB_put hH hT ?_ oq (fun q hq => by funext j; simp [tl_u, hq]) (fun _ _ => rfl) (fun _ _ => rfl)
  rw [hce]
  show H1[a]? = some (vp_cell _ _)
  rw [e1]
  show some ((vp_cell _ _).setSlot _ _) = _
  rw [vp_cell_i, vp_cell_i, arrV_store]
  congr 2
  funext q
  by_cases hq : q = i.toNatClampNeg
  · subst hq
    simp [updV, tl_u]
  · simp [updV, tl_u, hq]
theorem tl_cast {K N j : Nat} {i x : Int32} (hce : ∀ (dA : Nat → ClassId) (u : tl_S), tl_ce dA K a u = .inl (dA 1, N, .inl (u.1 a))) (hd : decode M.2.1 pc = .ok (.castore, 1)) (hT : tl_T E.2.1 a = some K) (hin : vp_in i N) (hj : i.toNatClampNeg = j) (hx : narrow .char (.int x) = .int x) 
    (kk : tl_R E M X Z k n (tl_HB E (tl_u u.1 a j x, u.2)) (pc + 1) ls st) : tl_R E M X Z k n (tl_HB E u) pc ls (.int x :: .int i :: .ref a :: st) := by
  intro p e s m args below meth c hC hX H la locs hH hS hL
  have hat := hH a K hT
  rw [hce] at hat
  subst hj
  have hK := hC.2.2.2.2.2.2.2.2.1.1
  refine W.cast hC.1 hC.2.1 hat ((hK.2 1 _ rfl).1 N (fun j => .int (u.1 a j))) (fun q => by cases q) (by show ¬ (i < 0 ∨ (arrV _ _ _).slots.size ≤ _); rw [arrV_size]; exact hin) rfl rfl hd fun H1 e1 z oq => ?_
  refine kk p e s m args below meth c hC hX H1 la _ ?_ (hS.put z oq (tl_T_le hT)) hL
  refine tl_HB_put hH hT ?_ oq (fun q hq => by funext j; simp [tl_u, hq]) (fun _ _ => rfl) (fun _ _ => rfl)
  rw [hce]
  show H1[a]? = some (vp_cell _ _)
  rw [e1]
  show some ((vp_cell _ _).setSlot _ _) = _
  rw [vp_cell_i, vp_cell_i, arrV_store]
  congr 2
  funext q
  by_cases hq : q = i.toNatClampNeg
  · subst hq
    simp [updV, tl_u, hx]
  · simp [updV, tl_u, hq]
theorem tl_zast {K N j : Nat} {i x : Int32} (hce : ∀ (dA : Nat → ClassId) (u : tl_S), tl_ce dA K a u = .inl (dA 2, N, .inl (u.1 a))) (hd : decode M.2.1 pc = .ok (.bastore, 1)) (hT : tl_T E.2.1 a = some K) (hin : vp_in i N) (hj : i.toNatClampNeg = j) (hx : narrow .boolean (.int x) = .int x) 
    (kk : tl_R E M X Z k n (tl_HB E (tl_u u.1 a j x, u.2)) (pc + 1) ls st) : tl_R E M X Z k n (tl_HB E u) pc ls (.int x :: .int i :: .ref a :: st) := by
  intro p e s m args below meth c hC hX H la locs hH hS hL
  have hat := hH a K hT
  rw [hce] at hat
  subst hj
  have hK := hC.2.2.2.2.2.2.2.2.1.1
  refine W.zast hC.1 hC.2.1 hat ((hK.2 2 _ rfl).1 N (fun j => .int (u.1 a j))) (fun q => by cases q) (by show ¬ (i < 0 ∨ (arrV _ _ _).slots.size ≤ _); rw [arrV_size]; exact hin) rfl rfl hd fun H1 e1 z oq => ?_
  refine kk p e s m args below meth c hC hX H1 la _ ?_ (hS.put z oq (tl_T_le hT)) hL
  refine tl_HB_put hH hT ?_ oq (fun q hq => by funext j; simp [tl_u, hq]) (fun _ _ => rfl) (fun _ _ => rfl)
  rw [hce]
  show H1[a]? = some (vp_cell _ _)
  rw [e1]
  show some ((vp_cell _ _).setSlot _ _) = _
  rw [vp_cell_i, vp_cell_i, arrV_store]
  congr 2
  funext q
  by_cases hq : q = i.toNatClampNeg
  · subst hq
    simp [updV, tl_u, hx]
  · simp [updV, tl_u, hq]
theorem tl_lald {K N j : Nat} {i : Int32} (hce : ∀ (dA : Nat → ClassId) (u : tl_S), tl_ce dA K a u = .inl (dA 3, N, .inr (.inl (u.2.2 a)))) (hd : decode M.2.1 pc = .ok (.laload, 1)) (hT : tl_T E.2.1 a = some K) (hin : vp_in i N) (hj : i.toNatClampNeg = j)
    (kk : tl_R E M X Z k n (tl_HB E u) (pc + 1) ls (.long (u.2.2 a j) :: st)) : tl_R E M X Z k n (tl_HB E u) pc ls (.int i :: .ref a :: st) := by
  intro p e s m args below meth c hC hX H la locs hH hS hL
  have hat := hH a K hT
  rw [hce] at hat
  subst hj
  exact va_lald hC.1 hC.2.1 hC.2.2.2.2.2.2.2.2.1.1 (tl_P1 hat) 0 3 rfl rfl hin hd (kk p e s m args below meth c hC hX H la locs hH hS hL)
theorem tl_last {K N j : Nat} {i : Int32} {x : Int64} (hce : ∀ (dA : Nat → ClassId) (u : tl_S), tl_ce dA K a u = .inl (dA 3, N, .inr (.inl (u.2.2 a)))) (hd : decode M.2.1 pc = .ok (.lastore, 1)) (hT : tl_T E.2.1 a = some K) (hin : vp_in i N) (hj : i.toNatClampNeg = j)
    (kk : tl_R E M X Z k n (tl_HB E (u.1, u.2.1, tl_uL u.2.2 a j x)) (pc + 1) ls st) : tl_R E M X Z k n (tl_HB E u) pc ls (.long x :: .int i :: .ref a :: st) := by
  intro p e s m args below meth c hC hX H la locs hH hS hL
  have hat := hH a K hT
  rw [hce] at hat
  subst hj
  have hK := hC.2.2.2.2.2.2.2.2.1.1
  refine W.last hC.1 hC.2.1 hat ((hK.2 3 _ rfl).1 N (fun j => .long (u.2.2 a j))) (fun q => by cases q) (by show ¬ (i < 0 ∨ (arrV _ _ _).slots.size ≤ _); rw [arrV_size]; exact hin) rfl rfl hd fun H1 e1 z oq => ?_
  refine kk p e s m args below meth c hC hX H1 la _ ?_ (hS.put z oq (tl_T_le hT)) hL
  refine tl_HB_put hH hT ?_ oq (fun _ _ => rfl) (fun _ _ => rfl) (fun q hq => by funext j; simp [tl_uL, hq])
  rw [hce]
  show H1[a]? = some (vp_cell _ _)
  rw [e1]
  show some ((vp_cell _ _).setSlot _ _) = _
  rw [vp_cell_l, vp_cell_l, arrV_store]
  congr 2
  funext q
  by_cases hq : q = i.toNatClampNeg
  · subst hq
    simp [updV, tl_uL]
  · simp [updV, tl_uL, hq]
theorem tl_aald {K N t j b : Nat} {i : Int32} {C : String} {f : tl_S → Nat → Option Nat} (hce : ∀ (dA : Nat → ClassId) (u : tl_S), tl_ce dA K a u = .inl (dA t, N, .inr (.inr (.inr (.inr (f u)))))) (ht : ∀ dA : Nat → ClassId, (tl_tys dA)[t]? = some (dA t, .object C)) (hd : decode M.2.1 pc = .ok (.aaload, 1)) (hT : tl_T E.2.1 a = some K) (hin : vp_in i N) (hj : i.toNatClampNeg = j) (hb : f u j = some b)
    (kk : tl_R E M X Z k n (tl_HB E u) (pc + 1) ls (.ref b :: st)) : tl_R E M X Z k n (tl_HB E u) pc ls (.int i :: .ref a :: st) := by
  intro p e s m args below meth c hC hX H la locs hH hS hL
  have hat := hH a K hT
  rw [hce] at hat
  subst hj
  refine va_aldq hC.1 hC.2.1 hC.2.2.2.2.2.2.2.2.1.1 (tl_P1 hat) 0 t rfl (ht _) hin hd ?_
  rw [hb]
  exact kk p e s m args below meth c hC hX H la locs hH hS hL
/-- a row of orders: an order is put at its place -/
theorem tl_aast {j b : Nat} {i : Int32} (hd : decode M.2.1 pc = .ok (.aastore, 1)) (hT : tl_T E.2.1 a = some 21) (hTb : tl_T E.2.1 b = some 8) (hin : vp_in i 6) (hj : i.toNatClampNeg = j)
    (kk : tl_R E M X Z k n (tl_HB E (u.1, tl_uO u.2.1 a j b, u.2.2)) (pc + 1) ls st) : tl_R E M X Z k n (tl_HB E u) pc ls (.ref b :: .int i :: .ref a :: st) := by
  intro p e s m args below meth c hC hX H la locs hH hS hL
  have hat := hH a 21 hT
  have hatb := hH b 8 hTb
  subst hj
  have hK := hC.2.2.2.2.2.2.2.2.1.1
  have hlt : i.toNatClampNeg < 6 := Nat.not_le.mp fun q => hin (Or.inr q)
  have h0 : ¬ i < 0 := fun q => hin (Or.inl q)
  obtain ⟨r', hr', cellV, g1, g2, g3, -⟩ := hatb
  have hr2 : r' = (RX8, TX8, 5) := Option.some.inj (hr'.symm.trans (show vwCl[8]? = some (RX8, TX8, 5) from rfl))
  have hcls := (hK.1 8 (RX8, TX8, 5) rfl).2
  obtain ⟨kA, comp, k1, k2, k3, -⟩ := (hK.2 7 _ rfl).2
  have hcomp : comp = E.2.2.1.1 8 := Option.some.inj (k3.symm.trans hcls.1)
  subst hcomp
  obtain ⟨kC, hkC, -⟩ := hcls.2
  refine W.aast hC.1 hC.2.1 hat (fun q h => by cases h) (fun h => by cases h) k1 k2 rfl hkC ⟨h0, by show _ < (arrV _ _ _).slots.size; rw [arrV_size]; exact hlt⟩ g1 (fun q h => by rw [g3] at h; cases h) (by rw [g2]; exact hkC) (by rw [g2]; exact va_assign hcls) rfl rfl hd fun H1 e1 z oq => ?_
  refine kk p e s m args below meth c hC hX H1 la _ ?_ (hS.put z oq (tl_T_le hT)) hL
  refine tl_HB_put hH hT ?_ oq (fun _ _ => rfl) (fun q hq => by funext j; simp [tl_uO, hq]) (fun _ _ => rfl)
  show H1[a]? = some (vp_cell _ _)
  rw [e1]
  show some ((vp_cell _ _).setSlot _ _) = _
  rw [vp_cell_q, vp_cell_q, arrV_store]
  congr 2
  funext q
  by_cases hq : q = i.toNatClampNeg
  · subst hq
    simp [updV, tl_uO, va_rf]
  · simp [updV, tl_uO, hq]
theorem tl_alenC {v : Int32} (hd : decode M.2.1 pc = .ok (.arraylength, 1)) (hT : tl_T E.2.1 a = some 11) (hv : Int32.ofNat 120 = v)
    (kk : tl_R E M X Z k n (tl_HB E u) (pc + 1) ls (.int v :: st)) : tl_R E M X Z k n (tl_HB E u) pc ls (.ref a :: st) := by
  intro p e s m args below meth c hC hX H la locs hH hS hL
  exact va_alen hC.1 hC.2.1 hC.2.2.2.2.2.2.2.2.1.1 (tl_P1 (hH a 11 hT)) 0 1 rfl rfl hv hd (kk p e s m args below meth c hC hX H la locs hH hS hL)
end TLH
end
section
/-! Contracts, calls, returns. -/
abbrev tl_Fr (E : tl_E) : Nat → Prop := fun q => E.2.1 ≤ q
def tl_w (M : tl_M) : Cond := Cond.code M.1 M.2.1 M.2.2.1 M.2.2.2.1
def tl_Pc (E : tl_E) (av : List Value) (HP : Heap → Prop) : Array Value → State → Prop := fun v U => v = av.toArray ∧ HP U.heap ∧ tl_KK E U ∧ E.2.1 ≤ U.heap.size
def tl_Qc (E : tl_E) (Q : Option Value → Heap → Prop) : Array Value → State → Outcome → State → Prop := fun _ st o t => (∃ r, o = .returned r ∧ Q r t.heap) ∧ va_F (tl_Fr E) st t
def tl_Met (E : tl_E) (M : tl_M) (av : List Value) (HP : Heap → Prop) (Q : Option Value → Heap → Prop) : Prop :=
  Met E.1 M.1 (tl_w M :: tl_GW) M.2.2.2.2 (tl_Pc E av HP) (tl_Qc E Q) M.2.2.2.2.cells M.2.2.2.2.slots (tl_Fr E)
def tl_Z (E : tl_E) (M : tl_M) (Q : Option Value → Heap → Prop) : List Frame → Array Value → State → State → Prop := fun below args s => MQ below (tl_Qc E Q) args s M.2.2.2.2.cells M.2.2.2.2.slots (tl_Fr E)
def tl_X0 : State → Array Value → Code → Prop := fun _ _ _ => True
theorem tl_blind (E : tl_E) (av : List Value) (HP : Heap → Prop) : FrameBlind (tl_Pc E av HP) := fun a U g mk h =>
  ⟨h.1, h.2.1, tl_KK_step (U := U.calling g mk a) h.2.2.1 (State.WarmedH.refl U) (fun _ _ _ => rfl), h.2.2.2⟩
theorem tl_start {E : tl_E} {M : tl_M} {av : List Value} {HP : Heap → Prop} {Q : Option Value → Heap → Prop} (ls0 : List (Option Value)) (hy : plainName M.1.cls = true) (h0 : ls0.length = M.2.2.1) (hls : tl_lq ls0 0 = lv_args 0 av) (hlen : (lg_sl av).length ≤ M.2.2.1)
    (body : tl_R E M tl_X0 (tl_Z E M Q) 0 0 HP 0 ls0 []) : tl_Met E M av HP Q := by
  refine Met.ofW (cc := M.2.1) (maxL := M.2.2.1) (ret := M.2.2.2.1) hy rfl ?_
  intro p e s m args below meth c s₁ B hml hv
  obtain ⟨rfl, hH, hKK, hz⟩ := hv
  have hts := atoms_spec (ws := tl_w M :: tl_GW) B.pre
  rw [lg_entry_eq]
  refine body p e s m _ below meth c ⟨B.exec, B.bytes, B.returns, hml, findClass_of_methodNamed B.named, fun w hw => hts w (List.mem_cons_of_mem _ hw), B.notSynchronized, (name_of_methodNamed B.named B.method).1, hKK, hz⟩ trivial s.heap _ [] hH va_S.rf ⟨h0, ?_⟩
  rw [hls]
  exact lv_entry av hlen
section TLQ
variable {E : tl_E} {M N : tl_M} {X : State → Array Value → Code → Prop} {Z : List Frame → Array Value → State → State → Prop} {k n pc : Nat} {HP : Heap → Prop} {Q : Option Value → Heap → Prop} {ls : List (Option Value)} {st rest : List Value}
theorem tl_iret {v : Int32} {ty : FieldType} (hd : decode M.2.1 pc = .ok (.ireturn, 1)) (hr : M.2.2.2.1 = some ty) (hn : narrow ty (.int v) = .int v) (hk : k ≤ M.2.2.2.2.cells) (hn2 : n ≤ M.2.2.2.2.slots) (hq : ∀ H, HP H → Q (some (.int v)) H) : tl_R E M X (tl_Z E M Q) k n HP pc ls [.int v] := by
  intro p e s m args below meth c hC hX H la locs hH hS hL
  refine W.widen hk hn2 ?_
  exact W.zret hC.1 hC.2.1 (hC.2.2.1.trans hr) hn (fun t ht hW => ⟨⟨_, rfl, by rw [ht]; exact hq H hH⟩, hS.F ht⟩) (fun q hq => hS.2.2 q hq) hd (hlocks := hC.2.2.2.2.2.2.1)
theorem tl_vret (hd : decode M.2.1 pc = .ok (.return_, 1)) (hr : M.2.2.2.1 = none) (hk : k ≤ M.2.2.2.2.cells) (hn2 : n ≤ M.2.2.2.2.slots) (hq : ∀ H, HP H → Q none H) : tl_R E M X (tl_Z E M Q) k n HP pc ls [] := by
  intro p e s m args below meth c hC hX H la locs hH hS hL
  refine W.widen hk hn2 ?_
  exact W.vret hC.1 hC.2.1 (hC.2.2.1.trans hr) (fun t ht hW => ⟨⟨_, rfl, by rw [ht]; exact hq H hH⟩, hS.F ht⟩) (fun q hq => hS.2.2 q hq) hd (hlocks := hC.2.2.2.2.2.2.1)
theorem tl_lret {v : Int64} (hd : decode M.2.1 pc = .ok (.lreturn, 1)) (hr : M.2.2.2.1 = some .long) (hk : k ≤ M.2.2.2.2.cells) (hn2 : n ≤ M.2.2.2.2.slots) (hq : ∀ H, HP H → Q (some (.long v)) H) : tl_R E M X (tl_Z E M Q) k n HP pc ls [.long v] := by
  intro p e s m args below meth c hC hX H la locs hH hS hL
  refine W.widen hk hn2 ?_
  exact W.lret hC.1 hC.2.1 (hC.2.2.1.trans hr) (fun t ht hW => ⟨⟨_, rfl, by rw [ht]; exact hq H hH⟩, hS.F ht⟩) (fun q hq => hS.2.2 q hq) hd (hlocks := hC.2.2.2.2.2.2.1)
/-- behind a call -/
theorem tl_after {p : Program} {l : Launch} {e : Env} {R : Room} {s : State} {m : MethodId} {args : Array Value} {below : List Frame} {meth : Method} {c : Code} {H : Heap} {locs : List Loc} {mc ms : Nat} {la : Array Slot} {st0 : List Value} {a : Array Value} {Qz : State → Prop}
    (hr : va_Run p l e R s m args below meth c H locs k n mc ms (F0 m pc la st0) rest (tl_Qc E Q a) (tl_Fr E)) (hS : va_S (tl_Fr E) s.heap H locs)
    (kk : ∀ (r : Option Value) (H1 : Heap) (locs1 : List Loc), Q r H1 → va_S (tl_Fr E) s.heap H1 locs1 → W p l e R s m args below meth c H1 locs1 (k + mc) (n + ms) Qz (F0 m (pc + 3) la (r.toList ++ rest))) : W p l e R s m args below meth c H locs k n Qz (F0 m pc la st0) := by
  intro T hT X
  obtain ⟨v, st₀, t, T', L, h0, X', hL, e1, e2, ⟨⟨r, hv, hq⟩, hz, hk⟩, st⟩ := hr T hT X
  cases hv
  rw [h0] at hz hk
  obtain ⟨t2, a1, b1⟩ := kk v T'.heap (locs ++ L) (by rw [e1]; exact hq)
    ⟨Nat.le_trans hS.1 (by rw [e1]; exact hz), fun q h1 h2 => by rw [e1, hk q (Nat.lt_of_lt_of_le h1 hS.1) h2]; exact hS.2.1 q h1 h2, fun q hq => by
      rcases List.mem_append.mp hq with h | h
      · exact hS.2.2 q h
      · exact hL q h⟩ T' rfl X'
  exact ⟨t2, st t2 a1, b1⟩
/-- what a call site asks of the tables and of the room -/
def tl_cR (M N : tl_M) (cnt : Nat) : Prop := (N.1.cls ≠ "java/lang/invoke/MethodHandle" ∧ N.1.cls ≠ "java/lang/invoke/VarHandle" ∧ (parseMethodDescriptor N.1.desc).map (fun d => d.parameters.length) = some cnt) ∧ (N.2.2.2.2.frames + 1 ≤ M.2.2.2.2.frames ∧ 8 + (N.2.2.1 + 11) + N.2.2.2.2.locals ≤ M.2.2.2.2.locals)
def tl_cS (M N : tl_M) (i cnt : Nat) : Prop := tl_w N ∈ tl_GW ∧ Cond.methodLink M.1.cls i N.1 ∈ tl_GW ∧ Cond.static N.1 ∈ tl_GW ∧ Cond.initialized N.1.cls ∈ tl_GW ∧ tl_cR M N cnt
def tl_cV (M N : tl_M) (i cnt : Nat) : Prop := tl_w N ∈ tl_GW ∧ Cond.methodLink M.1.cls i N.1 ∈ tl_GW ∧ Cond.instanceMethod N.1 ∈ tl_GW ∧ Cond.selects N.1.cls N.1 N.1 ∈ tl_GW ∧ Cond.initialized N.1.cls ∈ tl_GW ∧ tl_cR M N cnt
def tl_cN (M N : tl_M) (i cnt : Nat) : Prop := tl_w N ∈ tl_GW ∧ (M.1.cls, i, N.1) ∈ tl_NM ∧ Cond.static N.1 ∈ tl_GW ∧ Cond.initialized N.1.cls ∈ tl_GW ∧ tl_cR M N cnt
def tl_cI (M N : tl_M) (i cnt : Nat) : Prop := tl_w N ∈ tl_GW ∧ Cond.methodLink M.1.cls i N.1 ∈ tl_GW ∧ Cond.instanceMethod N.1 ∈ tl_GW ∧ Cond.initialized N.1.cls ∈ tl_GW ∧ N.1.name = "<init>" ∧ N.2.2.2.1 = none ∧ tl_cR M N cnt
def tl_cIN (M N : tl_M) (i cnt : Nat) : Prop := tl_w N ∈ tl_GW ∧ (M.1.cls, i, N.1) ∈ tl_NM ∧ Cond.instanceMethod N.1 ∈ tl_GW ∧ Cond.initialized N.1.cls ∈ tl_GW ∧ N.1.name = "<init>" ∧ N.2.2.2.1 = none ∧ tl_cR M N cnt
theorem tl_pre {s : State} {H : Heap} {locs : List Loc} {av : List Value} (hKK : tl_KK E s) (hz : E.2.1 ≤ s.heap.size) (hH : HP H) (hS : va_S (tl_Fr E) s.heap H locs) : ∀ U : State, U.heap = H → s.WarmedH U.vm → tl_Pc E av HP av.toArray U := fun U hU hW =>
  ⟨rfl, by rw [hU]; exact hH, tl_KK_step hKK hW (fun a h1 h2 => by rw [hU]; exact hS.2.1 a h1 h2), by rw [hU]; exact Nat.le_trans hz hS.1⟩
theorem tl_callS {As : List Value} {i : Nat} (hN : tl_Met E N As HP Q) (hd : decode M.2.1 pc = .ok (.invokestatic i, 3)) (hc : tl_cS M N i As.length) (hf : k + N.2.2.2.2.cells ≤ M.2.2.2.2.cells ∧ n + N.2.2.2.2.slots ≤ M.2.2.2.2.slots) (hr : (rest.map fun v => v.category).sum ≤ 8)
    (kk : ∀ r, tl_R E M X Z (k + N.2.2.2.2.cells) (n + N.2.2.2.2.slots) (Q r) (pc + 3) ls (r.toList ++ rest)) : tl_R E M X Z k n HP pc ls (As.reverse ++ rest) := by
  intro p e s m args below meth c hC hX H la locs hH hS hL
  obtain ⟨c1, c2, c3, c4, c5, c6⟩ := hc
  have hts := hC.2.2.2.2.2.1
  refine tl_after (va_runS ⟨hC.1, hC.2.1, hC.2.2.2.1, hC.2.2.2.2.1, hts⟩ hN ⟨callB_of As.length hts (tl_goodInG c1) rfl rfl rfl (hts _ c4) (hts _ c2) c5 c6, hts _ c3⟩ ⟨tl_blind E As HP, tl_pre hC.2.2.2.2.2.2.2.2.1 hC.2.2.2.2.2.2.2.2.2 hH hS⟩ rfl rfl (show la.size = _ from hL.2.1) rfl (lv_room hr) hd hf) hS ?_
  exact fun r H1 locs1 hq hS1 => kk r p e s m args below meth c hC hX H1 la locs1 hq hS1 hL
theorem tl_callN {As : List Value} {i : Nat} (hN : tl_Met E N As HP Q) (hd : decode M.2.1 pc = .ok (.invokestatic i, 3)) (hc : tl_cN M N i As.length) (hf : k + N.2.2.2.2.cells ≤ M.2.2.2.2.cells ∧ n + N.2.2.2.2.slots ≤ M.2.2.2.2.slots) (hr : (rest.map fun v => v.category).sum ≤ 8)
    (kk : ∀ r, tl_R E M X Z (k + N.2.2.2.2.cells) (n + N.2.2.2.2.slots) (Q r) (pc + 3) ls (r.toList ++ rest)) : tl_R E M X Z k n HP pc ls (As.reverse ++ rest) := by
  intro p e s m args below meth c hC hX H la locs hH hS hL
  obtain ⟨c1, c2, c3, c4, c5, c6⟩ := hc
  have hts := hC.2.2.2.2.2.1
  have hKK := hC.2.2.2.2.2.2.2.2.1
  refine tl_after (va_runSN ⟨hC.1, hC.2.1, hC.2.2.2.1, hC.2.2.2.2.1, hts⟩ hN ⟨va_cnB As.length hts (tl_goodInG c1) rfl rfl rfl (hKK.2.2.1 _ c2) (hts _ c4) c5 c6, hts _ c3, trivial⟩ ⟨tl_blind E As HP, tl_pre hKK hC.2.2.2.2.2.2.2.2.2 hH hS⟩ rfl rfl (show la.size = _ from hL.2.1) rfl (lv_room hr) hd hf) hS ?_
  exact fun r H1 locs1 hq hS1 => kk r p e s m args below meth c hC hX H1 la locs1 hq hS1 hL
theorem tl_callI {As : List Value} {i b : Nat} (hN : tl_Met E N (.ref b :: As) HP Q) (hd : decode M.2.1 pc = .ok (.invokespecial i, 3)) (hc : tl_cI M N i As.length) (hf : k + N.2.2.2.2.cells ≤ M.2.2.2.2.cells ∧ n + N.2.2.2.2.slots ≤ M.2.2.2.2.slots) (hr : (rest.map fun v => v.category).sum ≤ 8)
    (kk : ∀ r, tl_R E M X Z (k + N.2.2.2.2.cells) (n + N.2.2.2.2.slots) (Q r) (pc + 3) ls (r.toList ++ rest)) : tl_R E M X Z k n HP pc ls (As.reverse ++ .ref b :: rest) := by
  intro p e s m args below meth c hC hX H la locs hH hS hL
  obtain ⟨c1, c2, c3, c4, c7, c8, c5, c6⟩ := hc
  have hts := hC.2.2.2.2.2.1
  unfold tl_Met at hN
  unfold tl_w at hN c1
  rw [c8] at hN c1
  refine tl_after (va_runI ⟨hC.1, hC.2.1, hC.2.2.2.1, hC.2.2.2.2.1, hts⟩ hN ⟨callB_of As.length hts (tl_goodInG c1) rfl rfl rfl (hts _ c4) (hts _ c2) c5 c6, c7, hts _ c3⟩ ⟨tl_blind E _ HP, tl_pre hC.2.2.2.2.2.2.2.2.1 hC.2.2.2.2.2.2.2.2.2 hH hS⟩ rfl rfl (show la.size = _ from hL.2.1) rfl (lv_room hr) hd hf) hS ?_
  exact fun r H1 locs1 hq hS1 => kk r p e s m args below meth c hC hX H1 la locs1 hq hS1 hL
theorem tl_callIN {As : List Value} {i b : Nat} (hN : tl_Met E N (.ref b :: As) HP Q) (hd : decode M.2.1 pc = .ok (.invokespecial i, 3)) (hc : tl_cIN M N i As.length) (hf : k + N.2.2.2.2.cells ≤ M.2.2.2.2.cells ∧ n + N.2.2.2.2.slots ≤ M.2.2.2.2.slots) (hr : (rest.map fun v => v.category).sum ≤ 8)
    (kk : ∀ r, tl_R E M X Z (k + N.2.2.2.2.cells) (n + N.2.2.2.2.slots) (Q r) (pc + 3) ls (r.toList ++ rest)) : tl_R E M X Z k n HP pc ls (As.reverse ++ .ref b :: rest) := by
  intro p e s m args below meth c hC hX H la locs hH hS hL
  obtain ⟨c1, c2, c3, c4, c7, c8, c5, c6⟩ := hc
  have hts := hC.2.2.2.2.2.1
  have hKK := hC.2.2.2.2.2.2.2.2.1
  unfold tl_Met at hN
  unfold tl_w at hN c1
  rw [c8] at hN c1
  refine tl_after (va_runIN ⟨hC.1, hC.2.1, hC.2.2.2.1, hC.2.2.2.2.1, hts⟩ hN ⟨va_cnB As.length hts (tl_goodInG c1) rfl rfl rfl (hKK.2.2.1 _ c2) (hts _ c4) c5 c6, c7, hts _ c3⟩ ⟨tl_blind E _ HP, tl_pre hKK hC.2.2.2.2.2.2.2.2.2 hH hS⟩ rfl rfl (show la.size = _ from hL.2.1) rfl (lv_room hr) hd hf) hS ?_
  exact fun r H1 locs1 hq hS1 => kk r p e s m args below meth c hC hX H1 la locs1 hq hS1 hL
theorem tl_callV {As : List Value} {i b : Nat} (hN : tl_Met E N (.ref b :: As) HP Q) (hrc : ∀ (s : State) (H : Heap), tl_KK E s → HP H → ∃ cell : Cell, H[b]? = some cell ∧ cell.vm.isStatics = false ∧ s.vm.findClass N.1.cls = some cell.cls) (hd : decode M.2.1 pc = .ok (.invokevirtual i, 3)) (hc : tl_cV M N i As.length) (hf : k + N.2.2.2.2.cells ≤ M.2.2.2.2.cells ∧ n + N.2.2.2.2.slots ≤ M.2.2.2.2.slots) (hr : (rest.map fun v => v.category).sum ≤ 8)
    (kk : ∀ r, tl_R E M X Z (k + N.2.2.2.2.cells) (n + N.2.2.2.2.slots) (Q r) (pc + 3) ls (r.toList ++ rest)) : tl_R E M X Z k n HP pc ls (As.reverse ++ .ref b :: rest) := by
  intro p e s m args below meth c hC hX H la locs hH hS hL
  obtain ⟨c1, c2, c3, c4, c7, c5, c6⟩ := hc
  have hts := hC.2.2.2.2.2.1
  have hKK := hC.2.2.2.2.2.2.2.2.1
  refine tl_after (va_runV (C := N.1.cls) ⟨hC.1, hC.2.1, hC.2.2.2.1, hC.2.2.2.2.1, hts⟩ hN ⟨callB_of As.length hts (tl_goodInG c1) rfl rfl rfl (hts _ c7) (hts _ c2) c5 c6, hts _ c3, hts _ c4⟩ ⟨tl_blind E _ HP, hrc s H hKK hH, tl_pre hKK hC.2.2.2.2.2.2.2.2.2 hH hS⟩ rfl rfl (show la.size = _ from hL.2.1) rfl (lv_room hr) hd hf) hS ?_
  exact fun r H1 locs1 hq hS1 => kk r p e s m args below meth c hC hX H1 la locs1 hq hS1 hL
theorem tl_objInit {i a : Nat} (hd : decode M.2.1 pc = .ok (.invokespecial i, 3)) (hl : Cond.methodLink M.1.cls i Lib.objectInit ∈ tl_GW) (hi : Cond.instanceMethod Lib.objectInit ∈ tl_GW) (hcd : Cond.code Lib.objectInit ⟨#[0xb1]⟩ 1 none ∈ tl_GW) (hf : 1 ≤ M.2.2.2.2.frames) (hlo : 20 ≤ M.2.2.2.2.locals) (hr : (st.map fun v => v.category).sum ≤ 8)
    (kk : tl_R E M X Z k n HP (pc + 3) ls st) : tl_R E M X Z k n HP pc ls (.ref a :: st) := by
  intro p e s m args below meth c hC hX H la locs hH hS hL
  have hts := hC.2.2.2.2.2.1
  have h0 : 2 * (F0 m pc la (.ref a :: st)).monitorRoom + (st.map fun v => v.category).sum ≤ 8 := lv_room hr
  exact W.objInit hC.1 hC.2.1 hC.2.2.2.2.1 (hts _ hl) (hts _ hi) (hts _ hcd) rfl (show la.size = _ from hL.2.1.trans hC.2.2.2.1.symm) rfl hd hf (by omega) (kk p e s m args below meth c hC hX H la locs hH hS hL)
end TLQ
/-! ### contracts over the world as numbers -/
def tl_MB (E : tl_E) (M : tl_M) (av : List Value) (u : tl_S) (Q : Option Value → tl_S → Prop) : Prop := tl_Met E M av (tl_HB E u) (fun r H => ∃ v, Q r v ∧ tl_HB E v H)
abbrev tl_ZB (E : tl_E) (M : tl_M) (Q : Option Value → tl_S → Prop) : List Frame → Array Value → State → State → Prop := tl_Z E M (fun r H => ∃ v, Q r v ∧ tl_HB E v H)
/-- it answers x, and the world is v then -/
abbrev tl_Mi (E : tl_E) (M : tl_M) (av : List Value) (u : tl_S) (x : Int32) (v : tl_S) : Prop := tl_MB E M av u (fun r w => r = some (.int x) ∧ w = v)
abbrev tl_Mv (E : tl_E) (M : tl_M) (av : List Value) (u : tl_S) (v : tl_S) : Prop := tl_MB E M av u (fun r w => r = none ∧ w = v)
theorem tl_recv {E : tl_E} {u : tl_S} {b K : Nat} {C : String} {T : u_T} {N : Nat} {ty : Nat → FieldType} (ck : tl_ck K C T N ty) (hT : tl_T E.2.1 b = some K) : ∀ (s : State) (H : Heap), tl_KK E s → tl_HB E u H → ∃ cell : Cell, H[b]? = some cell ∧ cell.vm.isStatics = false ∧ s.vm.findClass C = some cell.cls := by
  intro s H hKK hH
  have hat := hH b K hT
  rw [tl_ce_obj ck.1] at hat
  exact va_recv (q := (C, T, N)) hKK.1 (tl_P1 hat) ck.2.1 (q0 := 0) rfl
section TLB
variable {E : tl_E} {M N : tl_M} {X : State → Array Value → Code → Prop} {Z : List Frame → Array Value → State → State → Prop} {k n pc : Nat} {u : tl_S} {Q QN : Option Value → tl_S → Prop} {ls : List (Option Value)} {rest : List Value}
theorem tl_iretB {v : Int32} {ty : FieldType} (hd : decode M.2.1 pc = .ok (.ireturn, 1)) (hr : M.2.2.2.1 = some ty) (hn : narrow ty (.int v) = .int v) (hk : k ≤ M.2.2.2.2.cells) (hn2 : n ≤ M.2.2.2.2.slots) (hq : Q (some (.int v)) u) : tl_R E M X (tl_ZB E M Q) k n (tl_HB E u) pc ls [.int v] :=
  tl_iret hd hr hn hk hn2 (fun H hH => ⟨u, hq, hH⟩)
theorem tl_vretB (hd : decode M.2.1 pc = .ok (.return_, 1)) (hr : M.2.2.2.1 = none) (hk : k ≤ M.2.2.2.2.cells) (hn2 : n ≤ M.2.2.2.2.slots) (hq : Q none u) : tl_R E M X (tl_ZB E M Q) k n (tl_HB E u) pc ls [] :=
  tl_vret hd hr hk hn2 (fun H hH => ⟨u, hq, hH⟩)
theorem tl_lretB {v : Int64} (hd : decode M.2.1 pc = .ok (.lreturn, 1)) (hr : M.2.2.2.1 = some .long) (hk : k ≤ M.2.2.2.2.cells) (hn2 : n ≤ M.2.2.2.2.slots) (hq : Q (some (.long v)) u) : tl_R E M X (tl_ZB E M Q) k n (tl_HB E u) pc ls [.long v] :=
  tl_lret hd hr hk hn2 (fun H hH => ⟨u, hq, hH⟩)
theorem tl_callS0 {i : Nat} (hN : tl_MB E N [] u QN) (hd : decode M.2.1 pc = .ok (.invokestatic i, 3)) (hc : tl_cS M N i 0) (hf : k + N.2.2.2.2.cells ≤ M.2.2.2.2.cells ∧ n + N.2.2.2.2.slots ≤ M.2.2.2.2.slots) (hr : (rest.map fun v => v.category).sum ≤ 8)
    (kk : ∀ r v, QN r v → tl_R E M X Z (k + N.2.2.2.2.cells) (n + N.2.2.2.2.slots) (tl_HB E v) (pc + 3) ls (r.toList ++ rest)) : tl_R E M X Z k n (tl_HB E u) pc ls (rest) :=
  tl_callS (As := []) hN hd hc hf hr (fun r => tl_ex (kk r))
theorem tl_callN0 {i : Nat} (hN : tl_MB E N [] u QN) (hd : decode M.2.1 pc = .ok (.invokestatic i, 3)) (hc : tl_cN M N i 0) (hf : k + N.2.2.2.2.cells ≤ M.2.2.2.2.cells ∧ n + N.2.2.2.2.slots ≤ M.2.2.2.2.slots) (hr : (rest.map fun v => v.category).sum ≤ 8)
    (kk : ∀ r v, QN r v → tl_R E M X Z (k + N.2.2.2.2.cells) (n + N.2.2.2.2.slots) (tl_HB E v) (pc + 3) ls (r.toList ++ rest)) : tl_R E M X Z k n (tl_HB E u) pc ls (rest) :=
  tl_callN (As := []) hN hd hc hf hr (fun r => tl_ex (kk r))
theorem tl_callV0 {i o K : Nat} {C : String} {T : u_T} {NN : Nat} {ty : Nat → FieldType} (ck : tl_ck K C T NN ty) (hC : N.1.cls = C) (hT : tl_T E.2.1 o = some K) (hN : tl_MB E N (.ref o :: []) u QN) (hd : decode M.2.1 pc = .ok (.invokevirtual i, 3)) (hc : tl_cV M N i 0) (hf : k + N.2.2.2.2.cells ≤ M.2.2.2.2.cells ∧ n + N.2.2.2.2.slots ≤ M.2.2.2.2.slots) (hr : (rest.map fun v => v.category).sum ≤ 8)
    (kk : ∀ r v, QN r v → tl_R E M X Z (k + N.2.2.2.2.cells) (n + N.2.2.2.2.slots) (tl_HB E v) (pc + 3) ls (r.toList ++ rest)) : tl_R E M X Z k n (tl_HB E u) pc ls (.ref o :: rest) :=
  tl_callV (As := []) hN (by rw [hC]; exact tl_recv ck hT) hd hc hf hr (fun r => tl_ex (kk r))
theorem tl_callS1 {a : Value} {i : Nat} (hN : tl_MB E N [a] u QN) (hd : decode M.2.1 pc = .ok (.invokestatic i, 3)) (hc : tl_cS M N i 1) (hf : k + N.2.2.2.2.cells ≤ M.2.2.2.2.cells ∧ n + N.2.2.2.2.slots ≤ M.2.2.2.2.slots) (hr : (rest.map fun v => v.category).sum ≤ 8)
    (kk : ∀ r v, QN r v → tl_R E M X Z (k + N.2.2.2.2.cells) (n + N.2.2.2.2.slots) (tl_HB E v) (pc + 3) ls (r.toList ++ rest)) : tl_R E M X Z k n (tl_HB E u) pc ls (a :: rest) :=
  tl_callS (As := [a]) hN hd hc hf hr (fun r => tl_ex (kk r))
theorem tl_callN1 {a : Value} {i : Nat} (hN : tl_MB E N [a] u QN) (hd : decode M.2.1 pc = .ok (.invokestatic i, 3)) (hc : tl_cN M N i 1) (hf : k + N.2.2.2.2.cells ≤ M.2.2.2.2.cells ∧ n + N.2.2.2.2.slots ≤ M.2.2.2.2.slots) (hr : (rest.map fun v => v.category).sum ≤ 8)
    (kk : ∀ r v, QN r v → tl_R E M X Z (k + N.2.2.2.2.cells) (n + N.2.2.2.2.slots) (tl_HB E v) (pc + 3) ls (r.toList ++ rest)) : tl_R E M X Z k n (tl_HB E u) pc ls (a :: rest) :=
  tl_callN (As := [a]) hN hd hc hf hr (fun r => tl_ex (kk r))
theorem tl_callV1 {a : Value} {i o K : Nat} {C : String} {T : u_T} {NN : Nat} {ty : Nat → FieldType} (ck : tl_ck K C T NN ty) (hC : N.1.cls = C) (hT : tl_T E.2.1 o = some K) (hN : tl_MB E N (.ref o :: [a]) u QN) (hd : decode M.2.1 pc = .ok (.invokevirtual i, 3)) (hc : tl_cV M N i 1) (hf : k + N.2.2.2.2.cells ≤ M.2.2.2.2.cells ∧ n + N.2.2.2.2.slots ≤ M.2.2.2.2.slots) (hr : (rest.map fun v => v.category).sum ≤ 8)
    (kk : ∀ r v, QN r v → tl_R E M X Z (k + N.2.2.2.2.cells) (n + N.2.2.2.2.slots) (tl_HB E v) (pc + 3) ls (r.toList ++ rest)) : tl_R E M X Z k n (tl_HB E u) pc ls (a :: .ref o :: rest) :=
  tl_callV (As := [a]) hN (by rw [hC]; exact tl_recv ck hT) hd hc hf hr (fun r => tl_ex (kk r))
theorem tl_callS2 {a b : Value} {i : Nat} (hN : tl_MB E N [a, b] u QN) (hd : decode M.2.1 pc = .ok (.invokestatic i, 3)) (hc : tl_cS M N i 2) (hf : k + N.2.2.2.2.cells ≤ M.2.2.2.2.cells ∧ n + N.2.2.2.2.slots ≤ M.2.2.2.2.slots) (hr : (rest.map fun v => v.category).sum ≤ 8)
    (kk : ∀ r v, QN r v → tl_R E M X Z (k + N.2.2.2.2.cells) (n + N.2.2.2.2.slots) (tl_HB E v) (pc + 3) ls (r.toList ++ rest)) : tl_R E M X Z k n (tl_HB E u) pc ls (b :: a :: rest) :=
  tl_callS (As := [a, b]) hN hd hc hf hr (fun r => tl_ex (kk r))
theorem tl_callN2 {a b : Value} {i : Nat} (hN : tl_MB E N [a, b] u QN) (hd : decode M.2.1 pc = .ok (.invokestatic i, 3)) (hc : tl_cN M N i 2) (hf : k + N.2.2.2.2.cells ≤ M.2.2.2.2.cells ∧ n + N.2.2.2.2.slots ≤ M.2.2.2.2.slots) (hr : (rest.map fun v => v.category).sum ≤ 8)
    (kk : ∀ r v, QN r v → tl_R E M X Z (k + N.2.2.2.2.cells) (n + N.2.2.2.2.slots) (tl_HB E v) (pc + 3) ls (r.toList ++ rest)) : tl_R E M X Z k n (tl_HB E u) pc ls (b :: a :: rest) :=
  tl_callN (As := [a, b]) hN hd hc hf hr (fun r => tl_ex (kk r))
theorem tl_callV2 {a b : Value} {i o K : Nat} {C : String} {T : u_T} {NN : Nat} {ty : Nat → FieldType} (ck : tl_ck K C T NN ty) (hC : N.1.cls = C) (hT : tl_T E.2.1 o = some K) (hN : tl_MB E N (.ref o :: [a, b]) u QN) (hd : decode M.2.1 pc = .ok (.invokevirtual i, 3)) (hc : tl_cV M N i 2) (hf : k + N.2.2.2.2.cells ≤ M.2.2.2.2.cells ∧ n + N.2.2.2.2.slots ≤ M.2.2.2.2.slots) (hr : (rest.map fun v => v.category).sum ≤ 8)
    (kk : ∀ r v, QN r v → tl_R E M X Z (k + N.2.2.2.2.cells) (n + N.2.2.2.2.slots) (tl_HB E v) (pc + 3) ls (r.toList ++ rest)) : tl_R E M X Z k n (tl_HB E u) pc ls (b :: a :: .ref o :: rest) :=
  tl_callV (As := [a, b]) hN (by rw [hC]; exact tl_recv ck hT) hd hc hf hr (fun r => tl_ex (kk r))
theorem tl_callS3 {a b c : Value} {i : Nat} (hN : tl_MB E N [a, b, c] u QN) (hd : decode M.2.1 pc = .ok (.invokestatic i, 3)) (hc : tl_cS M N i 3) (hf : k + N.2.2.2.2.cells ≤ M.2.2.2.2.cells ∧ n + N.2.2.2.2.slots ≤ M.2.2.2.2.slots) (hr : (rest.map fun v => v.category).sum ≤ 8)
    (kk : ∀ r v, QN r v → tl_R E M X Z (k + N.2.2.2.2.cells) (n + N.2.2.2.2.slots) (tl_HB E v) (pc + 3) ls (r.toList ++ rest)) : tl_R E M X Z k n (tl_HB E u) pc ls (c :: b :: a :: rest) :=
  tl_callS (As := [a, b, c]) hN hd hc hf hr (fun r => tl_ex (kk r))
theorem tl_callN3 {a b c : Value} {i : Nat} (hN : tl_MB E N [a, b, c] u QN) (hd : decode M.2.1 pc = .ok (.invokestatic i, 3)) (hc : tl_cN M N i 3) (hf : k + N.2.2.2.2.cells ≤ M.2.2.2.2.cells ∧ n + N.2.2.2.2.slots ≤ M.2.2.2.2.slots) (hr : (rest.map fun v => v.category).sum ≤ 8)
    (kk : ∀ r v, QN r v → tl_R E M X Z (k + N.2.2.2.2.cells) (n + N.2.2.2.2.slots) (tl_HB E v) (pc + 3) ls (r.toList ++ rest)) : tl_R E M X Z k n (tl_HB E u) pc ls (c :: b :: a :: rest) :=
  tl_callN (As := [a, b, c]) hN hd hc hf hr (fun r => tl_ex (kk r))
theorem tl_callV3 {a b c : Value} {i o K : Nat} {C : String} {T : u_T} {NN : Nat} {ty : Nat → FieldType} (ck : tl_ck K C T NN ty) (hC : N.1.cls = C) (hT : tl_T E.2.1 o = some K) (hN : tl_MB E N (.ref o :: [a, b, c]) u QN) (hd : decode M.2.1 pc = .ok (.invokevirtual i, 3)) (hc : tl_cV M N i 3) (hf : k + N.2.2.2.2.cells ≤ M.2.2.2.2.cells ∧ n + N.2.2.2.2.slots ≤ M.2.2.2.2.slots) (hr : (rest.map fun v => v.category).sum ≤ 8)
    (kk : ∀ r v, QN r v → tl_R E M X Z (k + N.2.2.2.2.cells) (n + N.2.2.2.2.slots) (tl_HB E v) (pc + 3) ls (r.toList ++ rest)) : tl_R E M X Z k n (tl_HB E u) pc ls (c :: b :: a :: .ref o :: rest) :=
  tl_callV (As := [a, b, c]) hN (by rw [hC]; exact tl_recv ck hT) hd hc hf hr (fun r => tl_ex (kk r))
theorem tl_callS4 {a b c d : Value} {i : Nat} (hN : tl_MB E N [a, b, c, d] u QN) (hd : decode M.2.1 pc = .ok (.invokestatic i, 3)) (hc : tl_cS M N i 4) (hf : k + N.2.2.2.2.cells ≤ M.2.2.2.2.cells ∧ n + N.2.2.2.2.slots ≤ M.2.2.2.2.slots) (hr : (rest.map fun v => v.category).sum ≤ 8)
    (kk : ∀ r v, QN r v → tl_R E M X Z (k + N.2.2.2.2.cells) (n + N.2.2.2.2.slots) (tl_HB E v) (pc + 3) ls (r.toList ++ rest)) : tl_R E M X Z k n (tl_HB E u) pc ls (d :: c :: b :: a :: rest) :=
  tl_callS (As := [a, b, c, d]) hN hd hc hf hr (fun r => tl_ex (kk r))
theorem tl_callN4 {a b c d : Value} {i : Nat} (hN : tl_MB E N [a, b, c, d] u QN) (hd : decode M.2.1 pc = .ok (.invokestatic i, 3)) (hc : tl_cN M N i 4) (hf : k + N.2.2.2.2.cells ≤ M.2.2.2.2.cells ∧ n + N.2.2.2.2.slots ≤ M.2.2.2.2.slots) (hr : (rest.map fun v => v.category).sum ≤ 8)
    (kk : ∀ r v, QN r v → tl_R E M X Z (k + N.2.2.2.2.cells) (n + N.2.2.2.2.slots) (tl_HB E v) (pc + 3) ls (r.toList ++ rest)) : tl_R E M X Z k n (tl_HB E u) pc ls (d :: c :: b :: a :: rest) :=
  tl_callN (As := [a, b, c, d]) hN hd hc hf hr (fun r => tl_ex (kk r))
theorem tl_callV4 {a b c d : Value} {i o K : Nat} {C : String} {T : u_T} {NN : Nat} {ty : Nat → FieldType} (ck : tl_ck K C T NN ty) (hC : N.1.cls = C) (hT : tl_T E.2.1 o = some K) (hN : tl_MB E N (.ref o :: [a, b, c, d]) u QN) (hd : decode M.2.1 pc = .ok (.invokevirtual i, 3)) (hc : tl_cV M N i 4) (hf : k + N.2.2.2.2.cells ≤ M.2.2.2.2.cells ∧ n + N.2.2.2.2.slots ≤ M.2.2.2.2.slots) (hr : (rest.map fun v => v.category).sum ≤ 8)
    (kk : ∀ r v, QN r v → tl_R E M X Z (k + N.2.2.2.2.cells) (n + N.2.2.2.2.slots) (tl_HB E v) (pc + 3) ls (r.toList ++ rest)) : tl_R E M X Z k n (tl_HB E u) pc ls (d :: c :: b :: a :: .ref o :: rest) :=
  tl_callV (As := [a, b, c, d]) hN (by rw [hC]; exact tl_recv ck hT) hd hc hf hr (fun r => tl_ex (kk r))
theorem tl_callS5 {a b c d e : Value} {i : Nat} (hN : tl_MB E N [a, b, c, d, e] u QN) (hd : decode M.2.1 pc = .ok (.invokestatic i, 3)) (hc : tl_cS M N i 5) (hf : k + N.2.2.2.2.cells ≤ M.2.2.2.2.cells ∧ n + N.2.2.2.2.slots ≤ M.2.2.2.2.slots) (hr : (rest.map fun v => v.category).sum ≤ 8)
    (kk : ∀ r v, QN r v → tl_R E M X Z (k + N.2.2.2.2.cells) (n + N.2.2.2.2.slots) (tl_HB E v) (pc + 3) ls (r.toList ++ rest)) : tl_R E M X Z k n (tl_HB E u) pc ls (e :: d :: c :: b :: a :: rest) :=
  tl_callS (As := [a, b, c, d, e]) hN hd hc hf hr (fun r => tl_ex (kk r))
theorem tl_callN5 {a b c d e : Value} {i : Nat} (hN : tl_MB E N [a, b, c, d, e] u QN) (hd : decode M.2.1 pc = .ok (.invokestatic i, 3)) (hc : tl_cN M N i 5) (hf : k + N.2.2.2.2.cells ≤ M.2.2.2.2.cells ∧ n + N.2.2.2.2.slots ≤ M.2.2.2.2.slots) (hr : (rest.map fun v => v.category).sum ≤ 8)
    (kk : ∀ r v, QN r v → tl_R E M X Z (k + N.2.2.2.2.cells) (n + N.2.2.2.2.slots) (tl_HB E v) (pc + 3) ls (r.toList ++ rest)) : tl_R E M X Z k n (tl_HB E u) pc ls (e :: d :: c :: b :: a :: rest) :=
  tl_callN (As := [a, b, c, d, e]) hN hd hc hf hr (fun r => tl_ex (kk r))
theorem tl_callV5 {a b c d e : Value} {i o K : Nat} {C : String} {T : u_T} {NN : Nat} {ty : Nat → FieldType} (ck : tl_ck K C T NN ty) (hC : N.1.cls = C) (hT : tl_T E.2.1 o = some K) (hN : tl_MB E N (.ref o :: [a, b, c, d, e]) u QN) (hd : decode M.2.1 pc = .ok (.invokevirtual i, 3)) (hc : tl_cV M N i 5) (hf : k + N.2.2.2.2.cells ≤ M.2.2.2.2.cells ∧ n + N.2.2.2.2.slots ≤ M.2.2.2.2.slots) (hr : (rest.map fun v => v.category).sum ≤ 8)
    (kk : ∀ r v, QN r v → tl_R E M X Z (k + N.2.2.2.2.cells) (n + N.2.2.2.2.slots) (tl_HB E v) (pc + 3) ls (r.toList ++ rest)) : tl_R E M X Z k n (tl_HB E u) pc ls (e :: d :: c :: b :: a :: .ref o :: rest) :=
  tl_callV (As := [a, b, c, d, e]) hN (by rw [hC]; exact tl_recv ck hT) hd hc hf hr (fun r => tl_ex (kk r))
theorem tl_callS6 {a b c d e f : Value} {i : Nat} (hN : tl_MB E N [a, b, c, d, e, f] u QN) (hd : decode M.2.1 pc = .ok (.invokestatic i, 3)) (hc : tl_cS M N i 6) (hf : k + N.2.2.2.2.cells ≤ M.2.2.2.2.cells ∧ n + N.2.2.2.2.slots ≤ M.2.2.2.2.slots) (hr : (rest.map fun v => v.category).sum ≤ 8)
    (kk : ∀ r v, QN r v → tl_R E M X Z (k + N.2.2.2.2.cells) (n + N.2.2.2.2.slots) (tl_HB E v) (pc + 3) ls (r.toList ++ rest)) : tl_R E M X Z k n (tl_HB E u) pc ls (f :: e :: d :: c :: b :: a :: rest) :=
  tl_callS (As := [a, b, c, d, e, f]) hN hd hc hf hr (fun r => tl_ex (kk r))
theorem tl_callN6 {a b c d e f : Value} {i : Nat} (hN : tl_MB E N [a, b, c, d, e, f] u QN) (hd : decode M.2.1 pc = .ok (.invokestatic i, 3)) (hc : tl_cN M N i 6) (hf : k + N.2.2.2.2.cells ≤ M.2.2.2.2.cells ∧ n + N.2.2.2.2.slots ≤ M.2.2.2.2.slots) (hr : (rest.map fun v => v.category).sum ≤ 8)
    (kk : ∀ r v, QN r v → tl_R E M X Z (k + N.2.2.2.2.cells) (n + N.2.2.2.2.slots) (tl_HB E v) (pc + 3) ls (r.toList ++ rest)) : tl_R E M X Z k n (tl_HB E u) pc ls (f :: e :: d :: c :: b :: a :: rest) :=
  tl_callN (As := [a, b, c, d, e, f]) hN hd hc hf hr (fun r => tl_ex (kk r))
theorem tl_callV6 {a b c d e f : Value} {i o K : Nat} {C : String} {T : u_T} {NN : Nat} {ty : Nat → FieldType} (ck : tl_ck K C T NN ty) (hC : N.1.cls = C) (hT : tl_T E.2.1 o = some K) (hN : tl_MB E N (.ref o :: [a, b, c, d, e, f]) u QN) (hd : decode M.2.1 pc = .ok (.invokevirtual i, 3)) (hc : tl_cV M N i 6) (hf : k + N.2.2.2.2.cells ≤ M.2.2.2.2.cells ∧ n + N.2.2.2.2.slots ≤ M.2.2.2.2.slots) (hr : (rest.map fun v => v.category).sum ≤ 8)
    (kk : ∀ r v, QN r v → tl_R E M X Z (k + N.2.2.2.2.cells) (n + N.2.2.2.2.slots) (tl_HB E v) (pc + 3) ls (r.toList ++ rest)) : tl_R E M X Z k n (tl_HB E u) pc ls (f :: e :: d :: c :: b :: a :: .ref o :: rest) :=
  tl_callV (As := [a, b, c, d, e, f]) hN (by rw [hC]; exact tl_recv ck hT) hd hc hf hr (fun r => tl_ex (kk r))
theorem tl_callS7 {a b c d e f g : Value} {i : Nat} (hN : tl_MB E N [a, b, c, d, e, f, g] u QN) (hd : decode M.2.1 pc = .ok (.invokestatic i, 3)) (hc : tl_cS M N i 7) (hf : k + N.2.2.2.2.cells ≤ M.2.2.2.2.cells ∧ n + N.2.2.2.2.slots ≤ M.2.2.2.2.slots) (hr : (rest.map fun v => v.category).sum ≤ 8)
    (kk : ∀ r v, QN r v → tl_R E M X Z (k + N.2.2.2.2.cells) (n + N.2.2.2.2.slots) (tl_HB E v) (pc + 3) ls (r.toList ++ rest)) : tl_R E M X Z k n (tl_HB E u) pc ls (g :: f :: e :: d :: c :: b :: a :: rest) :=
  tl_callS (As := [a, b, c, d, e, f, g]) hN hd hc hf hr (fun r => tl_ex (kk r))
theorem tl_callN7 {a b c d e f g : Value} {i : Nat} (hN : tl_MB E N [a, b, c, d, e, f, g] u QN) (hd : decode M.2.1 pc = .ok (.invokestatic i, 3)) (hc : tl_cN M N i 7) (hf : k + N.2.2.2.2.cells ≤ M.2.2.2.2.cells ∧ n + N.2.2.2.2.slots ≤ M.2.2.2.2.slots) (hr : (rest.map fun v => v.category).sum ≤ 8)
    (kk : ∀ r v, QN r v → tl_R E M X Z (k + N.2.2.2.2.cells) (n + N.2.2.2.2.slots) (tl_HB E v) (pc + 3) ls (r.toList ++ rest)) : tl_R E M X Z k n (tl_HB E u) pc ls (g :: f :: e :: d :: c :: b :: a :: rest) :=
  tl_callN (As := [a, b, c, d, e, f, g]) hN hd hc hf hr (fun r => tl_ex (kk r))
end TLB
end
section
/-! The words of the tables, each by its place; the methods. -/
theorem in_L : Cond.initialized RL ∈ tl_GW := tl_inGW (List.mem_of_getElem? (i := 0) (by decide +kernel)) rfl
theorem in_X9 : Cond.initialized RX9 ∈ tl_GW := tl_inGW (List.mem_of_getElem? (i := 1) (by decide +kernel)) rfl
theorem in_X6 : Cond.initialized RX6 ∈ tl_GW := tl_inGW (List.mem_of_getElem? (i := 2) (by decide +kernel)) rfl
theorem in_X0 : Cond.initialized RX0 ∈ tl_GW := tl_inGW (List.mem_of_getElem? (i := 3) (by decide +kernel)) rfl
theorem in_X5 : Cond.initialized RX5 ∈ tl_GW := tl_inGW (List.mem_of_getElem? (i := 4) (by decide +kernel)) rfl
theorem in_X3 : Cond.initialized RX3 ∈ tl_GW := tl_inGW (List.mem_of_getElem? (i := 5) (by decide +kernel)) rfl
theorem in_X8 : Cond.initialized RX8 ∈ tl_GW := tl_inGW (List.mem_of_getElem? (i := 6) (by decide +kernel)) rfl
theorem in_X1 : Cond.initialized RX1 ∈ tl_GW := tl_inGW (List.mem_of_getElem? (i := 7) (by decide +kernel)) rfl
theorem in_X7 : Cond.initialized RX7 ∈ tl_GW := tl_inGW (List.mem_of_getElem? (i := 8) (by decide +kernel)) rfl
theorem in_X4 : Cond.initialized RX4 ∈ tl_GW := tl_inGW (List.mem_of_getElem? (i := 9) (by decide +kernel)) rfl
theorem in_X2 : Cond.initialized RX2 ∈ tl_GW := tl_inGW (List.mem_of_getElem? (i := 10) (by decide +kernel)) rfl
theorem in_X10 : Cond.initialized RX10 ∈ tl_GW := tl_inGW (List.mem_of_getElem? (i := 11) (by decide +kernel)) rfl
theorem in_java_lang_Throwable : Cond.initialized "java/lang/Throwable" ∈ tl_GW := tl_inGW (List.mem_of_getElem? (i := 12) (by decide +kernel)) rfl
theorem in_java_lang_Exception : Cond.initialized "java/lang/Exception" ∈ tl_GW := tl_inGW (List.mem_of_getElem? (i := 13) (by decide +kernel)) rfl
theorem in_java_lang_RuntimeException : Cond.initialized "java/lang/RuntimeException" ∈ tl_GW := tl_inGW (List.mem_of_getElem? (i := 14) (by decide +kernel)) rfl
theorem in_java_lang_IndexOutOfBoundsException : Cond.initialized "java/lang/IndexOutOfBoundsException" ∈ tl_GW := tl_inGW (List.mem_of_getElem? (i := 15) (by decide +kernel)) rfl
theorem in_java_lang_IllegalArgumentException : Cond.initialized "java/lang/IllegalArgumentException" ∈ tl_GW := tl_inGW (List.mem_of_getElem? (i := 16) (by decide +kernel)) rfl
theorem in_java_lang_IllegalStateException : Cond.initialized "java/lang/IllegalStateException" ∈ tl_GW := tl_inGW (List.mem_of_getElem? (i := 17) (by decide +kernel)) rfl
theorem in_J9 : Cond.initialized RJ9 ∈ tl_GW := tl_inGW (List.mem_of_getElem? (i := 18) (by decide +kernel)) rfl
theorem kk_L_8 : Cond.classLink RL 8 RX9 ∈ tl_GW := tl_inGW (List.mem_of_getElem? (i := 19) (by decide +kernel)) rfl
theorem ia_X9 : Cond.instantiable RX9 8 ∈ tl_GW := tl_inGW (List.mem_of_getElem? (i := 20) (by decide +kernel)) rfl
theorem ml_L_106 : Cond.methodLink RL 106 yX9_init ∈ tl_GW := tl_inGW (List.mem_of_getElem? (i := 21) (by decide +kernel)) rfl
theorem im_X9_init : Cond.instanceMethod yX9_init ∈ tl_GW := tl_inGW (List.mem_of_getElem? (i := 22) (by decide +kernel)) rfl
theorem cd_X9_init : Cond.code yX9_init cX9_init 2 none ∈ tl_GW := tl_inGW (List.mem_of_getElem? (i := 23) (by decide +kernel)) rfl
theorem ml_X9_3 : Cond.methodLink RX9 3 Lib.objectInit ∈ tl_GW := tl_inGW (List.mem_of_getElem? (i := 24) (by decide +kernel)) rfl
theorem im_objInit : Cond.instanceMethod Lib.objectInit ∈ tl_GW := tl_inGW (List.mem_of_getElem? (i := 25) (by decide +kernel)) rfl
theorem cd_objInit : Cond.code Lib.objectInit ⟨#[0xb1]⟩ 1 none ∈ tl_GW := tl_inGW (List.mem_of_getElem? (i := 26) (by decide +kernel)) rfl
theorem kk_X9_9 : Cond.classLink RX9 9 RX6 ∈ tl_GW := tl_inGW (List.mem_of_getElem? (i := 27) (by decide +kernel)) rfl
theorem ia_X6 : Cond.instantiable RX6 3 ∈ tl_GW := tl_inGW (List.mem_of_getElem? (i := 28) (by decide +kernel)) rfl
theorem im_X6_init : Cond.instanceMethod yX6_init ∈ tl_GW := tl_inGW (List.mem_of_getElem? (i := 30) (by decide +kernel)) rfl
theorem cd_X6_init : Cond.code yX6_init cX6_init 1 none ∈ tl_GW := tl_inGW (List.mem_of_getElem? (i := 31) (by decide +kernel)) rfl
theorem ml_X6_3 : Cond.methodLink RX6 3 Lib.objectInit ∈ tl_GW := tl_inGW (List.mem_of_getElem? (i := 32) (by decide +kernel)) rfl
theorem fl_X6_9 : Cond.fieldLink RX6 9 "TunnelLamps$MineText" "characters" "[C" ∈ tl_GW := tl_inGW (List.mem_of_getElem? (i := 33) (by decide +kernel)) rfl
theorem fl_X6_15 : Cond.fieldLink RX6 15 "TunnelLamps$MineText" "length" "I" ∈ tl_GW := tl_inGW (List.mem_of_getElem? (i := 34) (by decide +kernel)) rfl
theorem fl_X6_19 : Cond.fieldLink RX6 19 "TunnelLamps$MineText" "position" "I" ∈ tl_GW := tl_inGW (List.mem_of_getElem? (i := 35) (by decide +kernel)) rfl
theorem ac_char : Cond.arrayClass .char ∈ tl_GW := tl_inGW (List.mem_of_getElem? (i := 43) (by decide +kernel)) rfl
theorem kk_X9_16 : Cond.classLink RX9 16 RX0 ∈ tl_GW := tl_inGW (List.mem_of_getElem? (i := 44) (by decide +kernel)) rfl
theorem ia_X0 : Cond.instantiable RX0 5 ∈ tl_GW := tl_inGW (List.mem_of_getElem? (i := 45) (by decide +kernel)) rfl
theorem im_X0_init : Cond.instanceMethod yX0_init ∈ tl_GW := tl_inGW (List.mem_of_getElem? (i := 47) (by decide +kernel)) rfl
theorem cd_X0_init : Cond.code yX0_init cX0_init 1 none ∈ tl_GW := tl_inGW (List.mem_of_getElem? (i := 48) (by decide +kernel)) rfl
theorem ml_X0_1 : Cond.methodLink RX0 1 Lib.objectInit ∈ tl_GW := tl_inGW (List.mem_of_getElem? (i := 49) (by decide +kernel)) rfl
theorem fl_X0_7 : Cond.fieldLink RX0 7 "TunnelLamps$Command" "action" "I" ∈ tl_GW := tl_inGW (List.mem_of_getElem? (i := 50) (by decide +kernel)) rfl
theorem fl_X6_29 : Cond.fieldLink RX6 29 "TunnelLamps$Command" "action" "I" ∈ tl_GW := tl_inGW (List.mem_of_getElem? (i := 51) (by decide +kernel)) rfl
theorem fl_X5_135 : Cond.fieldLink RX5 135 "TunnelLamps$Command" "action" "I" ∈ tl_GW := tl_inGW (List.mem_of_getElem? (i := 52) (by decide +kernel)) rfl
theorem fl_X0_13 : Cond.fieldLink RX0 13 "TunnelLamps$Command" "a" "I" ∈ tl_GW := tl_inGW (List.mem_of_getElem? (i := 53) (by decide +kernel)) rfl
theorem fl_X6_59 : Cond.fieldLink RX6 59 "TunnelLamps$Command" "a" "I" ∈ tl_GW := tl_inGW (List.mem_of_getElem? (i := 54) (by decide +kernel)) rfl
theorem fl_X5_140 : Cond.fieldLink RX5 140 "TunnelLamps$Command" "a" "I" ∈ tl_GW := tl_inGW (List.mem_of_getElem? (i := 55) (by decide +kernel)) rfl
theorem fl_X0_16 : Cond.fieldLink RX0 16 "TunnelLamps$Command" "b" "I" ∈ tl_GW := tl_inGW (List.mem_of_getElem? (i := 56) (by decide +kernel)) rfl
theorem fl_X5_151 : Cond.fieldLink RX5 151 "TunnelLamps$Command" "b" "I" ∈ tl_GW := tl_inGW (List.mem_of_getElem? (i := 57) (by decide +kernel)) rfl
theorem fl_X0_19 : Cond.fieldLink RX0 19 "TunnelLamps$Command" "c" "I" ∈ tl_GW := tl_inGW (List.mem_of_getElem? (i := 58) (by decide +kernel)) rfl
theorem fl_X5_160 : Cond.fieldLink RX5 160 "TunnelLamps$Command" "c" "I" ∈ tl_GW := tl_inGW (List.mem_of_getElem? (i := 59) (by decide +kernel)) rfl
theorem fl_X0_22 : Cond.fieldLink RX0 22 "TunnelLamps$Command" "d" "I" ∈ tl_GW := tl_inGW (List.mem_of_getElem? (i := 60) (by decide +kernel)) rfl
theorem fl_X5_163 : Cond.fieldLink RX5 163 "TunnelLamps$Command" "d" "I" ∈ tl_GW := tl_inGW (List.mem_of_getElem? (i := 61) (by decide +kernel)) rfl
theorem kk_X9_23 : Cond.classLink RX9 23 RX5 ∈ tl_GW := tl_inGW (List.mem_of_getElem? (i := 73) (by decide +kernel)) rfl
theorem ia_X5 : Cond.instantiable RX5 16 ∈ tl_GW := tl_inGW (List.mem_of_getElem? (i := 74) (by decide +kernel)) rfl
theorem ml_X9_25 : Cond.methodLink RX9 25 yX5_init ∈ tl_GW := tl_inGW (List.mem_of_getElem? (i := 75) (by decide +kernel)) rfl
theorem im_X5_init : Cond.instanceMethod yX5_init ∈ tl_GW := tl_inGW (List.mem_of_getElem? (i := 76) (by decide +kernel)) rfl
theorem cd_X5_init : Cond.code yX5_init cX5_init 2 none ∈ tl_GW := tl_inGW (List.mem_of_getElem? (i := 77) (by decide +kernel)) rfl
theorem ml_X5_3 : Cond.methodLink RX5 3 Lib.objectInit ∈ tl_GW := tl_inGW (List.mem_of_getElem? (i := 78) (by decide +kernel)) rfl
theorem kk_X5_9 : Cond.classLink RX5 9 RX1 ∈ tl_GW := tl_inGW (List.mem_of_getElem? (i := 79) (by decide +kernel)) rfl
theorem kk_X5_17 : Cond.classLink RX5 17 RX7 ∈ tl_GW := tl_inGW (List.mem_of_getElem? (i := 81) (by decide +kernel)) rfl
theorem kk_X5_23 : Cond.classLink RX5 23 RX4 ∈ tl_GW := tl_inGW (List.mem_of_getElem? (i := 83) (by decide +kernel)) rfl
theorem kk_X5_29 : Cond.classLink RX5 29 RX3 ∈ tl_GW := tl_inGW (List.mem_of_getElem? (i := 85) (by decide +kernel)) rfl
theorem ia_X3 : Cond.instantiable RX3 7 ∈ tl_GW := tl_inGW (List.mem_of_getElem? (i := 86) (by decide +kernel)) rfl
theorem ml_X5_31 : Cond.methodLink RX5 31 yX3_init ∈ tl_GW := tl_inGW (List.mem_of_getElem? (i := 87) (by decide +kernel)) rfl
theorem im_X3_init : Cond.instanceMethod yX3_init ∈ tl_GW := tl_inGW (List.mem_of_getElem? (i := 88) (by decide +kernel)) rfl
theorem cd_X3_init : Cond.code yX3_init cX3_init 2 none ∈ tl_GW := tl_inGW (List.mem_of_getElem? (i := 89) (by decide +kernel)) rfl
theorem ml_X3_3 : Cond.methodLink RX3 3 Lib.objectInit ∈ tl_GW := tl_inGW (List.mem_of_getElem? (i := 90) (by decide +kernel)) rfl
theorem kk_X3_9 : Cond.classLink RX3 9 RX8 ∈ tl_GW := tl_inGW (List.mem_of_getElem? (i := 91) (by decide +kernel)) rfl
theorem ia_X8 : Cond.instantiable RX8 5 ∈ tl_GW := tl_inGW (List.mem_of_getElem? (i := 93) (by decide +kernel)) rfl
theorem im_X8_init : Cond.instanceMethod yX8_init ∈ tl_GW := tl_inGW (List.mem_of_getElem? (i := 95) (by decide +kernel)) rfl
theorem cd_X8_init : Cond.code yX8_init cX8_init 1 none ∈ tl_GW := tl_inGW (List.mem_of_getElem? (i := 96) (by decide +kernel)) rfl
theorem ml_X8_1 : Cond.methodLink RX8 1 Lib.objectInit ∈ tl_GW := tl_inGW (List.mem_of_getElem? (i := 97) (by decide +kernel)) rfl
theorem fl_X8_7 : Cond.fieldLink RX8 7 "TunnelLamps$Order" "kind" "I" ∈ tl_GW := tl_inGW (List.mem_of_getElem? (i := 98) (by decide +kernel)) rfl
theorem fl_X3_50 : Cond.fieldLink RX3 50 "TunnelLamps$Order" "kind" "I" ∈ tl_GW := tl_inGW (List.mem_of_getElem? (i := 99) (by decide +kernel)) rfl
theorem fl_X9_218 : Cond.fieldLink RX9 218 "TunnelLamps$Order" "kind" "I" ∈ tl_GW := tl_inGW (List.mem_of_getElem? (i := 100) (by decide +kernel)) rfl
theorem fl_X5_256 : Cond.fieldLink RX5 256 "TunnelLamps$Order" "kind" "I" ∈ tl_GW := tl_inGW (List.mem_of_getElem? (i := 101) (by decide +kernel)) rfl
theorem fl_X8_13 : Cond.fieldLink RX8 13 "TunnelLamps$Order" "lamp" "I" ∈ tl_GW := tl_inGW (List.mem_of_getElem? (i := 102) (by decide +kernel)) rfl
theorem fl_X3_53 : Cond.fieldLink RX3 53 "TunnelLamps$Order" "lamp" "I" ∈ tl_GW := tl_inGW (List.mem_of_getElem? (i := 103) (by decide +kernel)) rfl
theorem fl_X9_223 : Cond.fieldLink RX9 223 "TunnelLamps$Order" "lamp" "I" ∈ tl_GW := tl_inGW (List.mem_of_getElem? (i := 104) (by decide +kernel)) rfl
theorem fl_X5_251 : Cond.fieldLink RX5 251 "TunnelLamps$Order" "lamp" "I" ∈ tl_GW := tl_inGW (List.mem_of_getElem? (i := 105) (by decide +kernel)) rfl
theorem fl_X8_16 : Cond.fieldLink RX8 16 "TunnelLamps$Order" "gallery" "I" ∈ tl_GW := tl_inGW (List.mem_of_getElem? (i := 106) (by decide +kernel)) rfl
theorem fl_X3_54 : Cond.fieldLink RX3 54 "TunnelLamps$Order" "gallery" "I" ∈ tl_GW := tl_inGW (List.mem_of_getElem? (i := 107) (by decide +kernel)) rfl
theorem fl_X9_224 : Cond.fieldLink RX9 224 "TunnelLamps$Order" "gallery" "I" ∈ tl_GW := tl_inGW (List.mem_of_getElem? (i := 108) (by decide +kernel)) rfl
theorem fl_X5_283 : Cond.fieldLink RX5 283 "TunnelLamps$Order" "gallery" "I" ∈ tl_GW := tl_inGW (List.mem_of_getElem? (i := 109) (by decide +kernel)) rfl
theorem fl_X8_19 : Cond.fieldLink RX8 19 "TunnelLamps$Order" "cell" "I" ∈ tl_GW := tl_inGW (List.mem_of_getElem? (i := 110) (by decide +kernel)) rfl
theorem fl_X3_55 : Cond.fieldLink RX3 55 "TunnelLamps$Order" "cell" "I" ∈ tl_GW := tl_inGW (List.mem_of_getElem? (i := 111) (by decide +kernel)) rfl
theorem fl_X9_228 : Cond.fieldLink RX9 228 "TunnelLamps$Order" "cell" "I" ∈ tl_GW := tl_inGW (List.mem_of_getElem? (i := 112) (by decide +kernel)) rfl
theorem fl_X5_284 : Cond.fieldLink RX5 284 "TunnelLamps$Order" "cell" "I" ∈ tl_GW := tl_inGW (List.mem_of_getElem? (i := 113) (by decide +kernel)) rfl
theorem fl_X8_22 : Cond.fieldLink RX8 22 "TunnelLamps$Order" "amount" "I" ∈ tl_GW := tl_inGW (List.mem_of_getElem? (i := 114) (by decide +kernel)) rfl
theorem fl_X3_56 : Cond.fieldLink RX3 56 "TunnelLamps$Order" "amount" "I" ∈ tl_GW := tl_inGW (List.mem_of_getElem? (i := 115) (by decide +kernel)) rfl
theorem fl_X9_225 : Cond.fieldLink RX9 225 "TunnelLamps$Order" "amount" "I" ∈ tl_GW := tl_inGW (List.mem_of_getElem? (i := 116) (by decide +kernel)) rfl
theorem fl_X5_286 : Cond.fieldLink RX5 286 "TunnelLamps$Order" "amount" "I" ∈ tl_GW := tl_inGW (List.mem_of_getElem? (i := 117) (by decide +kernel)) rfl
theorem fl_X3_11 : Cond.fieldLink RX3 11 "TunnelLamps$Lad" "orders" "[LTunnelLamps$Order;" ∈ tl_GW := tl_inGW (List.mem_of_getElem? (i := 129) (by decide +kernel)) rfl
theorem fl_X9_214 : Cond.fieldLink RX9 214 "TunnelLamps$Lad" "orders" "[LTunnelLamps$Order;" ∈ tl_GW := tl_inGW (List.mem_of_getElem? (i := 130) (by decide +kernel)) rfl
theorem fl_X5_247 : Cond.fieldLink RX5 247 "TunnelLamps$Lad" "orders" "[LTunnelLamps$Order;" ∈ tl_GW := tl_inGW (List.mem_of_getElem? (i := 131) (by decide +kernel)) rfl
theorem fl_X3_26 : Cond.fieldLink RX3 26 "TunnelLamps$Lad" "orderCount" "I" ∈ tl_GW := tl_inGW (List.mem_of_getElem? (i := 132) (by decide +kernel)) rfl
theorem fl_X9_129 : Cond.fieldLink RX9 129 "TunnelLamps$Lad" "orderCount" "I" ∈ tl_GW := tl_inGW (List.mem_of_getElem? (i := 133) (by decide +kernel)) rfl
theorem fl_X5_223 : Cond.fieldLink RX5 223 "TunnelLamps$Lad" "orderCount" "I" ∈ tl_GW := tl_inGW (List.mem_of_getElem? (i := 134) (by decide +kernel)) rfl
theorem fl_X3_29 : Cond.fieldLink RX3 29 "TunnelLamps$Lad" "gallery" "I" ∈ tl_GW := tl_inGW (List.mem_of_getElem? (i := 135) (by decide +kernel)) rfl
theorem fl_X9_203 : Cond.fieldLink RX9 203 "TunnelLamps$Lad" "gallery" "I" ∈ tl_GW := tl_inGW (List.mem_of_getElem? (i := 136) (by decide +kernel)) rfl
theorem fl_X5_282 : Cond.fieldLink RX5 282 "TunnelLamps$Lad" "gallery" "I" ∈ tl_GW := tl_inGW (List.mem_of_getElem? (i := 137) (by decide +kernel)) rfl
theorem fl_X3_32 : Cond.fieldLink RX3 32 "TunnelLamps$Lad" "cell" "I" ∈ tl_GW := tl_inGW (List.mem_of_getElem? (i := 138) (by decide +kernel)) rfl
theorem fl_X9_204 : Cond.fieldLink RX9 204 "TunnelLamps$Lad" "cell" "I" ∈ tl_GW := tl_inGW (List.mem_of_getElem? (i := 139) (by decide +kernel)) rfl
theorem fl_X5_285 : Cond.fieldLink RX5 285 "TunnelLamps$Lad" "cell" "I" ∈ tl_GW := tl_inGW (List.mem_of_getElem? (i := 140) (by decide +kernel)) rfl
theorem fl_X3_17 : Cond.fieldLink RX3 17 "TunnelLamps$Lad" "lamp" "I" ∈ tl_GW := tl_inGW (List.mem_of_getElem? (i := 141) (by decide +kernel)) rfl
theorem fl_X9_205 : Cond.fieldLink RX9 205 "TunnelLamps$Lad" "lamp" "I" ∈ tl_GW := tl_inGW (List.mem_of_getElem? (i := 142) (by decide +kernel)) rfl
theorem fl_X5_259 : Cond.fieldLink RX5 259 "TunnelLamps$Lad" "lamp" "I" ∈ tl_GW := tl_inGW (List.mem_of_getElem? (i := 143) (by decide +kernel)) rfl
theorem fl_X3_35 : Cond.fieldLink RX3 35 "TunnelLamps$Lad" "oil" "I" ∈ tl_GW := tl_inGW (List.mem_of_getElem? (i := 144) (by decide +kernel)) rfl
theorem fl_X9_115 : Cond.fieldLink RX9 115 "TunnelLamps$Lad" "oil" "I" ∈ tl_GW := tl_inGW (List.mem_of_getElem? (i := 145) (by decide +kernel)) rfl
theorem fl_X5_289 : Cond.fieldLink RX5 289 "TunnelLamps$Lad" "oil" "I" ∈ tl_GW := tl_inGW (List.mem_of_getElem? (i := 146) (by decide +kernel)) rfl
theorem fl_X3_38 : Cond.fieldLink RX3 38 "TunnelLamps$Lad" "hasFetched" "Z" ∈ tl_GW := tl_inGW (List.mem_of_getElem? (i := 147) (by decide +kernel)) rfl
theorem fl_X5_267 : Cond.fieldLink RX5 267 "TunnelLamps$Lad" "hasFetched" "Z" ∈ tl_GW := tl_inGW (List.mem_of_getElem? (i := 148) (by decide +kernel)) rfl
theorem ia_X1 : Cond.instantiable RX1 2 ∈ tl_GW := tl_inGW (List.mem_of_getElem? (i := 164) (by decide +kernel)) rfl
theorem im_X1_init : Cond.instanceMethod yX1_init ∈ tl_GW := tl_inGW (List.mem_of_getElem? (i := 166) (by decide +kernel)) rfl
theorem cd_X1_init : Cond.code yX1_init cX1_init 1 none ∈ tl_GW := tl_inGW (List.mem_of_getElem? (i := 167) (by decide +kernel)) rfl
theorem ml_X1_3 : Cond.methodLink RX1 3 Lib.objectInit ∈ tl_GW := tl_inGW (List.mem_of_getElem? (i := 168) (by decide +kernel)) rfl
theorem fl_X1_9 : Cond.fieldLink RX1 9 "TunnelLamps$Gallery" "depth" "I" ∈ tl_GW := tl_inGW (List.mem_of_getElem? (i := 169) (by decide +kernel)) rfl
theorem fl_X5_93 : Cond.fieldLink RX5 93 "TunnelLamps$Gallery" "depth" "I" ∈ tl_GW := tl_inGW (List.mem_of_getElem? (i := 170) (by decide +kernel)) rfl
theorem fl_X9_146 : Cond.fieldLink RX9 146 "TunnelLamps$Gallery" "depth" "I" ∈ tl_GW := tl_inGW (List.mem_of_getElem? (i := 171) (by decide +kernel)) rfl
theorem fl_X1_15 : Cond.fieldLink RX1 15 "TunnelLamps$Gallery" "strokes" "I" ∈ tl_GW := tl_inGW (List.mem_of_getElem? (i := 172) (by decide +kernel)) rfl
theorem fl_X9_151 : Cond.fieldLink RX9 151 "TunnelLamps$Gallery" "strokes" "I" ∈ tl_GW := tl_inGW (List.mem_of_getElem? (i := 173) (by decide +kernel)) rfl
theorem fl_X5_215 : Cond.fieldLink RX5 215 "TunnelLamps$Gallery" "strokes" "I" ∈ tl_GW := tl_inGW (List.mem_of_getElem? (i := 174) (by decide +kernel)) rfl
theorem ia_X7 : Cond.instantiable RX7 4 ∈ tl_GW := tl_inGW (List.mem_of_getElem? (i := 180) (by decide +kernel)) rfl
theorem im_X7_init : Cond.instanceMethod yX7_init ∈ tl_GW := tl_inGW (List.mem_of_getElem? (i := 182) (by decide +kernel)) rfl
theorem cd_X7_init : Cond.code yX7_init cX7_init 1 none ∈ tl_GW := tl_inGW (List.mem_of_getElem? (i := 183) (by decide +kernel)) rfl
theorem ml_X7_1 : Cond.methodLink RX7 1 Lib.objectInit ∈ tl_GW := tl_inGW (List.mem_of_getElem? (i := 184) (by decide +kernel)) rfl
theorem fl_X7_7 : Cond.fieldLink RX7 7 "TunnelLamps$Miner" "gallery" "I" ∈ tl_GW := tl_inGW (List.mem_of_getElem? (i := 185) (by decide +kernel)) rfl
theorem fl_X5_99 : Cond.fieldLink RX5 99 "TunnelLamps$Miner" "gallery" "I" ∈ tl_GW := tl_inGW (List.mem_of_getElem? (i := 186) (by decide +kernel)) rfl
theorem fl_X9_176 : Cond.fieldLink RX9 176 "TunnelLamps$Miner" "gallery" "I" ∈ tl_GW := tl_inGW (List.mem_of_getElem? (i := 187) (by decide +kernel)) rfl
theorem fl_X7_13 : Cond.fieldLink RX7 13 "TunnelLamps$Miner" "pace" "I" ∈ tl_GW := tl_inGW (List.mem_of_getElem? (i := 188) (by decide +kernel)) rfl
theorem fl_X9_181 : Cond.fieldLink RX9 181 "TunnelLamps$Miner" "pace" "I" ∈ tl_GW := tl_inGW (List.mem_of_getElem? (i := 189) (by decide +kernel)) rfl
theorem fl_X5_218 : Cond.fieldLink RX5 218 "TunnelLamps$Miner" "pace" "I" ∈ tl_GW := tl_inGW (List.mem_of_getElem? (i := 190) (by decide +kernel)) rfl
theorem fl_X7_16 : Cond.fieldLink RX7 16 "TunnelLamps$Miner" "strokes" "I" ∈ tl_GW := tl_inGW (List.mem_of_getElem? (i := 191) (by decide +kernel)) rfl
theorem fl_X9_184 : Cond.fieldLink RX9 184 "TunnelLamps$Miner" "strokes" "I" ∈ tl_GW := tl_inGW (List.mem_of_getElem? (i := 192) (by decide +kernel)) rfl
theorem fl_X5_221 : Cond.fieldLink RX5 221 "TunnelLamps$Miner" "strokes" "I" ∈ tl_GW := tl_inGW (List.mem_of_getElem? (i := 193) (by decide +kernel)) rfl
theorem fl_X7_19 : Cond.fieldLink RX7 19 "TunnelLamps$Miner" "darkHours" "I" ∈ tl_GW := tl_inGW (List.mem_of_getElem? (i := 194) (by decide +kernel)) rfl
theorem fl_X9_185 : Cond.fieldLink RX9 185 "TunnelLamps$Miner" "darkHours" "I" ∈ tl_GW := tl_inGW (List.mem_of_getElem? (i := 195) (by decide +kernel)) rfl
theorem fl_X5_222 : Cond.fieldLink RX5 222 "TunnelLamps$Miner" "darkHours" "I" ∈ tl_GW := tl_inGW (List.mem_of_getElem? (i := 196) (by decide +kernel)) rfl
theorem ia_X4 : Cond.instantiable RX4 4 ∈ tl_GW := tl_inGW (List.mem_of_getElem? (i := 206) (by decide +kernel)) rfl
theorem im_X4_init : Cond.instanceMethod yX4_init ∈ tl_GW := tl_inGW (List.mem_of_getElem? (i := 208) (by decide +kernel)) rfl
theorem cd_X4_init : Cond.code yX4_init cX4_init 1 none ∈ tl_GW := tl_inGW (List.mem_of_getElem? (i := 209) (by decide +kernel)) rfl
theorem ml_X4_1 : Cond.methodLink RX4 1 Lib.objectInit ∈ tl_GW := tl_inGW (List.mem_of_getElem? (i := 210) (by decide +kernel)) rfl
theorem fl_X4_7 : Cond.fieldLink RX4 7 "TunnelLamps$Lamp" "gallery" "I" ∈ tl_GW := tl_inGW (List.mem_of_getElem? (i := 211) (by decide +kernel)) rfl
theorem fl_X5_102 : Cond.fieldLink RX5 102 "TunnelLamps$Lamp" "gallery" "I" ∈ tl_GW := tl_inGW (List.mem_of_getElem? (i := 212) (by decide +kernel)) rfl
theorem fl_X9_199 : Cond.fieldLink RX9 199 "TunnelLamps$Lamp" "gallery" "I" ∈ tl_GW := tl_inGW (List.mem_of_getElem? (i := 213) (by decide +kernel)) rfl
theorem fl_X4_13 : Cond.fieldLink RX4 13 "TunnelLamps$Lamp" "cell" "I" ∈ tl_GW := tl_inGW (List.mem_of_getElem? (i := 214) (by decide +kernel)) rfl
theorem fl_X9_200 : Cond.fieldLink RX9 200 "TunnelLamps$Lamp" "cell" "I" ∈ tl_GW := tl_inGW (List.mem_of_getElem? (i := 215) (by decide +kernel)) rfl
theorem fl_X5_110 : Cond.fieldLink RX5 110 "TunnelLamps$Lamp" "cell" "I" ∈ tl_GW := tl_inGW (List.mem_of_getElem? (i := 216) (by decide +kernel)) rfl
theorem fl_X4_16 : Cond.fieldLink RX4 16 "TunnelLamps$Lamp" "reach" "I" ∈ tl_GW := tl_inGW (List.mem_of_getElem? (i := 217) (by decide +kernel)) rfl
theorem fl_X9_193 : Cond.fieldLink RX9 193 "TunnelLamps$Lamp" "reach" "I" ∈ tl_GW := tl_inGW (List.mem_of_getElem? (i := 218) (by decide +kernel)) rfl
theorem fl_X5_113 : Cond.fieldLink RX5 113 "TunnelLamps$Lamp" "reach" "I" ∈ tl_GW := tl_inGW (List.mem_of_getElem? (i := 219) (by decide +kernel)) rfl
theorem fl_X4_19 : Cond.fieldLink RX4 19 "TunnelLamps$Lamp" "oil" "I" ∈ tl_GW := tl_inGW (List.mem_of_getElem? (i := 220) (by decide +kernel)) rfl
theorem fl_X5_96 : Cond.fieldLink RX5 96 "TunnelLamps$Lamp" "oil" "I" ∈ tl_GW := tl_inGW (List.mem_of_getElem? (i := 221) (by decide +kernel)) rfl
theorem fl_X9_198 : Cond.fieldLink RX9 198 "TunnelLamps$Lamp" "oil" "I" ∈ tl_GW := tl_inGW (List.mem_of_getElem? (i := 222) (by decide +kernel)) rfl
theorem fl_X5_11 : Cond.fieldLink RX5 11 "TunnelLamps$Mine" "galleries" "[LTunnelLamps$Gallery;" ∈ tl_GW := tl_inGW (List.mem_of_getElem? (i := 232) (by decide +kernel)) rfl
theorem fl_X9_142 : Cond.fieldLink RX9 142 "TunnelLamps$Mine" "galleries" "[LTunnelLamps$Gallery;" ∈ tl_GW := tl_inGW (List.mem_of_getElem? (i := 233) (by decide +kernel)) rfl
theorem fl_X5_19 : Cond.fieldLink RX5 19 "TunnelLamps$Mine" "miners" "[LTunnelLamps$Miner;" ∈ tl_GW := tl_inGW (List.mem_of_getElem? (i := 234) (by decide +kernel)) rfl
theorem fl_X9_172 : Cond.fieldLink RX9 172 "TunnelLamps$Mine" "miners" "[LTunnelLamps$Miner;" ∈ tl_GW := tl_inGW (List.mem_of_getElem? (i := 235) (by decide +kernel)) rfl
theorem fl_X5_25 : Cond.fieldLink RX5 25 "TunnelLamps$Mine" "lamps" "[LTunnelLamps$Lamp;" ∈ tl_GW := tl_inGW (List.mem_of_getElem? (i := 236) (by decide +kernel)) rfl
theorem fl_X9_189 : Cond.fieldLink RX9 189 "TunnelLamps$Mine" "lamps" "[LTunnelLamps$Lamp;" ∈ tl_GW := tl_inGW (List.mem_of_getElem? (i := 237) (by decide +kernel)) rfl
theorem fl_X5_32 : Cond.fieldLink RX5 32 "TunnelLamps$Mine" "lad" "LTunnelLamps$Lad;" ∈ tl_GW := tl_inGW (List.mem_of_getElem? (i := 238) (by decide +kernel)) rfl
theorem fl_X9_111 : Cond.fieldLink RX9 111 "TunnelLamps$Mine" "lad" "LTunnelLamps$Lad;" ∈ tl_GW := tl_inGW (List.mem_of_getElem? (i := 239) (by decide +kernel)) rfl
theorem fl_X5_56 : Cond.fieldLink RX5 56 "TunnelLamps$Mine" "galleryCount" "I" ∈ tl_GW := tl_inGW (List.mem_of_getElem? (i := 240) (by decide +kernel)) rfl
theorem fl_X9_92 : Cond.fieldLink RX9 92 "TunnelLamps$Mine" "galleryCount" "I" ∈ tl_GW := tl_inGW (List.mem_of_getElem? (i := 241) (by decide +kernel)) rfl
theorem fl_X5_59 : Cond.fieldLink RX5 59 "TunnelLamps$Mine" "minerCount" "I" ∈ tl_GW := tl_inGW (List.mem_of_getElem? (i := 242) (by decide +kernel)) rfl
theorem fl_X9_96 : Cond.fieldLink RX9 96 "TunnelLamps$Mine" "minerCount" "I" ∈ tl_GW := tl_inGW (List.mem_of_getElem? (i := 243) (by decide +kernel)) rfl
theorem fl_X5_62 : Cond.fieldLink RX5 62 "TunnelLamps$Mine" "lampCount" "I" ∈ tl_GW := tl_inGW (List.mem_of_getElem? (i := 244) (by decide +kernel)) rfl
theorem fl_X9_99 : Cond.fieldLink RX9 99 "TunnelLamps$Mine" "lampCount" "I" ∈ tl_GW := tl_inGW (List.mem_of_getElem? (i := 245) (by decide +kernel)) rfl
theorem fl_X5_65 : Cond.fieldLink RX5 65 "TunnelLamps$Mine" "time" "I" ∈ tl_GW := tl_inGW (List.mem_of_getElem? (i := 246) (by decide +kernel)) rfl
theorem fl_X9_102 : Cond.fieldLink RX9 102 "TunnelLamps$Mine" "time" "I" ∈ tl_GW := tl_inGW (List.mem_of_getElem? (i := 247) (by decide +kernel)) rfl
theorem fl_X5_68 : Cond.fieldLink RX5 68 "TunnelLamps$Mine" "store" "I" ∈ tl_GW := tl_inGW (List.mem_of_getElem? (i := 248) (by decide +kernel)) rfl
theorem fl_X9_105 : Cond.fieldLink RX9 105 "TunnelLamps$Mine" "store" "I" ∈ tl_GW := tl_inGW (List.mem_of_getElem? (i := 249) (by decide +kernel)) rfl
theorem fl_X5_71 : Cond.fieldLink RX5 71 "TunnelLamps$Mine" "burnt" "I" ∈ tl_GW := tl_inGW (List.mem_of_getElem? (i := 250) (by decide +kernel)) rfl
theorem fl_X9_120 : Cond.fieldLink RX9 120 "TunnelLamps$Mine" "burnt" "I" ∈ tl_GW := tl_inGW (List.mem_of_getElem? (i := 251) (by decide +kernel)) rfl
theorem fl_X5_74 : Cond.fieldLink RX5 74 "TunnelLamps$Mine" "spilled" "I" ∈ tl_GW := tl_inGW (List.mem_of_getElem? (i := 252) (by decide +kernel)) rfl
theorem fl_X9_123 : Cond.fieldLink RX9 123 "TunnelLamps$Mine" "spilled" "I" ∈ tl_GW := tl_inGW (List.mem_of_getElem? (i := 253) (by decide +kernel)) rfl
theorem fl_X5_77 : Cond.fieldLink RX5 77 "TunnelLamps$Mine" "came" "I" ∈ tl_GW := tl_inGW (List.mem_of_getElem? (i := 254) (by decide +kernel)) rfl
theorem fl_X9_126 : Cond.fieldLink RX9 126 "TunnelLamps$Mine" "came" "I" ∈ tl_GW := tl_inGW (List.mem_of_getElem? (i := 255) (by decide +kernel)) rfl
theorem fl_X5_80 : Cond.fieldLink RX5 80 "TunnelLamps$Mine" "darkHours" "I" ∈ tl_GW := tl_inGW (List.mem_of_getElem? (i := 256) (by decide +kernel)) rfl
theorem fl_X9_132 : Cond.fieldLink RX9 132 "TunnelLamps$Mine" "darkHours" "I" ∈ tl_GW := tl_inGW (List.mem_of_getElem? (i := 257) (by decide +kernel)) rfl
theorem fl_X5_83 : Cond.fieldLink RX5 83 "TunnelLamps$Mine" "dug" "I" ∈ tl_GW := tl_inGW (List.mem_of_getElem? (i := 258) (by decide +kernel)) rfl
theorem fl_X9_135 : Cond.fieldLink RX9 135 "TunnelLamps$Mine" "dug" "I" ∈ tl_GW := tl_inGW (List.mem_of_getElem? (i := 259) (by decide +kernel)) rfl
theorem fl_X5_36 : Cond.fieldLink RX5 36 "TunnelLamps$Mine" "stepsAnHour" "I" ∈ tl_GW := tl_inGW (List.mem_of_getElem? (i := 260) (by decide +kernel)) rfl
theorem fl_X5_86 : Cond.fieldLink RX5 86 "TunnelLamps$Mine" "ladLooksAround" "I" ∈ tl_GW := tl_inGW (List.mem_of_getElem? (i := 261) (by decide +kernel)) rfl
theorem fl_X9_248 : Cond.fieldLink RX9 248 "TunnelLamps$Mine" "ladLooksAround" "I" ∈ tl_GW := tl_inGW (List.mem_of_getElem? (i := 262) (by decide +kernel)) rfl
theorem kk_X9_36 : Cond.classLink RX9 36 RX2 ∈ tl_GW := tl_inGW (List.mem_of_getElem? (i := 296) (by decide +kernel)) rfl
theorem ia_X2 : Cond.instantiable RX2 3 ∈ tl_GW := tl_inGW (List.mem_of_getElem? (i := 297) (by decide +kernel)) rfl
theorem ml_X9_38 : Cond.methodLink RX9 38 yX2_init ∈ tl_GW := tl_inGW (List.mem_of_getElem? (i := 298) (by decide +kernel)) rfl
theorem im_X2_init : Cond.instanceMethod yX2_init ∈ tl_GW := tl_inGW (List.mem_of_getElem? (i := 299) (by decide +kernel)) rfl
theorem cd_X2_init : Cond.code yX2_init cX2_init 2 none ∈ tl_GW := tl_inGW (List.mem_of_getElem? (i := 300) (by decide +kernel)) rfl
theorem ml_X2_3 : Cond.methodLink RX2 3 Lib.objectInit ∈ tl_GW := tl_inGW (List.mem_of_getElem? (i := 301) (by decide +kernel)) rfl
theorem kk_X2_9 : Cond.classLink RX2 9 RX5 ∈ tl_GW := tl_inGW (List.mem_of_getElem? (i := 302) (by decide +kernel)) rfl
theorem ml_X2_17 : Cond.methodLink RX2 17 yX5_init ∈ tl_GW := tl_inGW (List.mem_of_getElem? (i := 304) (by decide +kernel)) rfl
theorem fl_X2_11 : Cond.fieldLink RX2 11 "TunnelLamps$History" "states" "[LTunnelLamps$Mine;" ∈ tl_GW := tl_inGW (List.mem_of_getElem? (i := 305) (by decide +kernel)) rfl
theorem fl_X2_22 : Cond.fieldLink RX2 22 "TunnelLamps$History" "oldest" "I" ∈ tl_GW := tl_inGW (List.mem_of_getElem? (i := 306) (by decide +kernel)) rfl
theorem fl_X2_18 : Cond.fieldLink RX2 18 "TunnelLamps$History" "count" "I" ∈ tl_GW := tl_inGW (List.mem_of_getElem? (i := 307) (by decide +kernel)) rfl
theorem fl_X9_239 : Cond.fieldLink RX9 239 "TunnelLamps$History" "count" "I" ∈ tl_GW := tl_inGW (List.mem_of_getElem? (i := 308) (by decide +kernel)) rfl
theorem fl_X9_12 : Cond.fieldLink RX9 12 "TunnelLamps" "text" "LTunnelLamps$MineText;" ∈ tl_GW := tl_inGW (List.mem_of_getElem? (i := 316) (by decide +kernel)) rfl
theorem fl_X9_19 : Cond.fieldLink RX9 19 "TunnelLamps" "command" "LTunnelLamps$Command;" ∈ tl_GW := tl_inGW (List.mem_of_getElem? (i := 317) (by decide +kernel)) rfl
theorem fl_X9_26 : Cond.fieldLink RX9 26 "TunnelLamps" "mine" "LTunnelLamps$Mine;" ∈ tl_GW := tl_inGW (List.mem_of_getElem? (i := 318) (by decide +kernel)) rfl
theorem fl_X9_30 : Cond.fieldLink RX9 30 "TunnelLamps" "fresh" "LTunnelLamps$Mine;" ∈ tl_GW := tl_inGW (List.mem_of_getElem? (i := 319) (by decide +kernel)) rfl
theorem fl_X9_33 : Cond.fieldLink RX9 33 "TunnelLamps" "copy" "LTunnelLamps$Mine;" ∈ tl_GW := tl_inGW (List.mem_of_getElem? (i := 320) (by decide +kernel)) rfl
theorem fl_X9_39 : Cond.fieldLink RX9 39 "TunnelLamps" "history" "LTunnelLamps$History;" ∈ tl_GW := tl_inGW (List.mem_of_getElem? (i := 321) (by decide +kernel)) rfl
theorem fl_X9_43 : Cond.fieldLink RX9 43 "TunnelLamps" "slots" "[LTunnelLamps$Mine;" ∈ tl_GW := tl_inGW (List.mem_of_getElem? (i := 322) (by decide +kernel)) rfl
theorem fl_X9_47 : Cond.fieldLink RX9 47 "TunnelLamps" "slotIsUsed" "[Z" ∈ tl_GW := tl_inGW (List.mem_of_getElem? (i := 323) (by decide +kernel)) rfl
theorem ac_boolean : Cond.arrayClass .boolean ∈ tl_GW := tl_inGW (List.mem_of_getElem? (i := 341) (by decide +kernel)) rfl
theorem ml_L_119 : Cond.methodLink RL 119 yX9_clearText ∈ tl_GW := tl_inGW (List.mem_of_getElem? (i := 342) (by decide +kernel)) rfl
theorem im_X9_clearText : Cond.instanceMethod yX9_clearText ∈ tl_GW := tl_inGW (List.mem_of_getElem? (i := 343) (by decide +kernel)) rfl
theorem se_X9_clearText : Cond.selects RX9 yX9_clearText yX9_clearText ∈ tl_GW := tl_inGW (List.mem_of_getElem? (i := 344) (by decide +kernel)) rfl
theorem cd_X9_clearText : Cond.code yX9_clearText cX9_clearText 1 (some .int) ∈ tl_GW := tl_inGW (List.mem_of_getElem? (i := 345) (by decide +kernel)) rfl
theorem ml_X9_67 : Cond.methodLink RX9 67 yX6_empty ∈ tl_GW := tl_inGW (List.mem_of_getElem? (i := 346) (by decide +kernel)) rfl
theorem im_X6_empty : Cond.instanceMethod yX6_empty ∈ tl_GW := tl_inGW (List.mem_of_getElem? (i := 347) (by decide +kernel)) rfl
theorem se_X6_empty : Cond.selects RX6 yX6_empty yX6_empty ∈ tl_GW := tl_inGW (List.mem_of_getElem? (i := 348) (by decide +kernel)) rfl
theorem cd_X6_empty : Cond.code yX6_empty cX6_empty 2 (some .int) ∈ tl_GW := tl_inGW (List.mem_of_getElem? (i := 349) (by decide +kernel)) rfl
theorem ml_L_123 : Cond.methodLink RL 123 yX9_errorPosition ∈ tl_GW := tl_inGW (List.mem_of_getElem? (i := 350) (by decide +kernel)) rfl
theorem im_X9_errorPosition : Cond.instanceMethod yX9_errorPosition ∈ tl_GW := tl_inGW (List.mem_of_getElem? (i := 351) (by decide +kernel)) rfl
theorem se_X9_errorPosition : Cond.selects RX9 yX9_errorPosition yX9_errorPosition ∈ tl_GW := tl_inGW (List.mem_of_getElem? (i := 352) (by decide +kernel)) rfl
theorem cd_X9_errorPosition : Cond.code yX9_errorPosition cX9_errorPosition 1 (some .int) ∈ tl_GW := tl_inGW (List.mem_of_getElem? (i := 353) (by decide +kernel)) rfl
theorem ml_X9_71 : Cond.methodLink RX9 71 yX6_findError ∈ tl_GW := tl_inGW (List.mem_of_getElem? (i := 354) (by decide +kernel)) rfl
theorem im_X6_findError : Cond.instanceMethod yX6_findError ∈ tl_GW := tl_inGW (List.mem_of_getElem? (i := 355) (by decide +kernel)) rfl
theorem se_X6_findError : Cond.selects RX6 yX6_findError yX6_findError ∈ tl_GW := tl_inGW (List.mem_of_getElem? (i := 356) (by decide +kernel)) rfl
theorem cd_X6_findError : Cond.code yX6_findError cX6_findError 4 (some .int) ∈ tl_GW := tl_inGW (List.mem_of_getElem? (i := 357) (by decide +kernel)) rfl
theorem ml_X6_22 : Cond.methodLink RX6 22 yX6_startCommands ∈ tl_GW := tl_inGW (List.mem_of_getElem? (i := 358) (by decide +kernel)) rfl
theorem im_X6_startCommands : Cond.instanceMethod yX6_startCommands ∈ tl_GW := tl_inGW (List.mem_of_getElem? (i := 359) (by decide +kernel)) rfl
theorem se_X6_startCommands : Cond.selects RX6 yX6_startCommands yX6_startCommands ∈ tl_GW := tl_inGW (List.mem_of_getElem? (i := 360) (by decide +kernel)) rfl
theorem cd_X6_startCommands : Cond.code yX6_startCommands cX6_startCommands 1 none ∈ tl_GW := tl_inGW (List.mem_of_getElem? (i := 361) (by decide +kernel)) rfl
theorem ml_X6_25 : Cond.methodLink RX6 25 yX6_readCommand ∈ tl_GW := tl_inGW (List.mem_of_getElem? (i := 362) (by decide +kernel)) rfl
theorem im_X6_readCommand : Cond.instanceMethod yX6_readCommand ∈ tl_GW := tl_inGW (List.mem_of_getElem? (i := 363) (by decide +kernel)) rfl
theorem se_X6_readCommand : Cond.selects RX6 yX6_readCommand yX6_readCommand ∈ tl_GW := tl_inGW (List.mem_of_getElem? (i := 364) (by decide +kernel)) rfl
theorem cd_X6_readCommand : Cond.code yX6_readCommand cX6_readCommand 2 (some .boolean) ∈ tl_GW := tl_inGW (List.mem_of_getElem? (i := 365) (by decide +kernel)) rfl
theorem ml_X6_34 : Cond.methodLink RX6 34 yX0_become ∈ tl_GW := tl_inGW (List.mem_of_getElem? (i := 366) (by decide +kernel)) rfl
theorem im_X0_become : Cond.instanceMethod yX0_become ∈ tl_GW := tl_inGW (List.mem_of_getElem? (i := 367) (by decide +kernel)) rfl
theorem se_X0_become : Cond.selects RX0 yX0_become yX0_become ∈ tl_GW := tl_inGW (List.mem_of_getElem? (i := 368) (by decide +kernel)) rfl
theorem cd_X0_become : Cond.code yX0_become cX0_become 6 none ∈ tl_GW := tl_inGW (List.mem_of_getElem? (i := 369) (by decide +kernel)) rfl
theorem ml_X6_38 : Cond.methodLink RX6 38 yX6_actionOf ∈ tl_GW := tl_inGW (List.mem_of_getElem? (i := 370) (by decide +kernel)) rfl
theorem sm_X6_actionOf : Cond.static yX6_actionOf ∈ tl_GW := tl_inGW (List.mem_of_getElem? (i := 371) (by decide +kernel)) rfl
theorem cd_X6_actionOf : Cond.code yX6_actionOf cX6_actionOf 1 (some .int) ∈ tl_GW := tl_inGW (List.mem_of_getElem? (i := 372) (by decide +kernel)) rfl
theorem ml_X6_42 : Cond.methodLink RX6 42 yX6_readNumbers ∈ tl_GW := tl_inGW (List.mem_of_getElem? (i := 373) (by decide +kernel)) rfl
theorem im_X6_readNumbers : Cond.instanceMethod yX6_readNumbers ∈ tl_GW := tl_inGW (List.mem_of_getElem? (i := 375) (by decide +kernel)) rfl
theorem cd_X6_readNumbers : Cond.code yX6_readNumbers cX6_readNumbers 2 (some .boolean) ∈ tl_GW := tl_inGW (List.mem_of_getElem? (i := 376) (by decide +kernel)) rfl
theorem ml_X6_45 : Cond.methodLink RX6 45 yX6_readNumber ∈ tl_GW := tl_inGW (List.mem_of_getElem? (i := 377) (by decide +kernel)) rfl
theorem im_X6_readNumber : Cond.instanceMethod yX6_readNumber ∈ tl_GW := tl_inGW (List.mem_of_getElem? (i := 379) (by decide +kernel)) rfl
theorem cd_X6_readNumber : Cond.code yX6_readNumber cX6_readNumber 11 (some .boolean) ∈ tl_GW := tl_inGW (List.mem_of_getElem? (i := 380) (by decide +kernel)) rfl
theorem sm_X9_isWithin : Cond.static yX9_isWithin ∈ tl_GW := tl_inGW (List.mem_of_getElem? (i := 382) (by decide +kernel)) rfl
theorem cd_X9_isWithin : Cond.code yX9_isWithin cX9_isWithin 3 (some .boolean) ∈ tl_GW := tl_inGW (List.mem_of_getElem? (i := 383) (by decide +kernel)) rfl
theorem ml_X6_66 : Cond.methodLink RX6 66 yX0_putNumber ∈ tl_GW := tl_inGW (List.mem_of_getElem? (i := 384) (by decide +kernel)) rfl
theorem im_X0_putNumber : Cond.instanceMethod yX0_putNumber ∈ tl_GW := tl_inGW (List.mem_of_getElem? (i := 385) (by decide +kernel)) rfl
theorem se_X0_putNumber : Cond.selects RX0 yX0_putNumber yX0_putNumber ∈ tl_GW := tl_inGW (List.mem_of_getElem? (i := 386) (by decide +kernel)) rfl
theorem cd_X0_putNumber : Cond.code yX0_putNumber cX0_putNumber 3 none ∈ tl_GW := tl_inGW (List.mem_of_getElem? (i := 387) (by decide +kernel)) rfl
theorem ml_X6_49 : Cond.methodLink RX6 49 yX6_readGallery ∈ tl_GW := tl_inGW (List.mem_of_getElem? (i := 388) (by decide +kernel)) rfl
theorem im_X6_readGallery : Cond.instanceMethod yX6_readGallery ∈ tl_GW := tl_inGW (List.mem_of_getElem? (i := 390) (by decide +kernel)) rfl
theorem cd_X6_readGallery : Cond.code yX6_readGallery cX6_readGallery 3 (some .boolean) ∈ tl_GW := tl_inGW (List.mem_of_getElem? (i := 391) (by decide +kernel)) rfl
theorem ml_X6_53 : Cond.methodLink RX6 53 yX6_readCell ∈ tl_GW := tl_inGW (List.mem_of_getElem? (i := 392) (by decide +kernel)) rfl
theorem im_X6_readCell : Cond.instanceMethod yX6_readCell ∈ tl_GW := tl_inGW (List.mem_of_getElem? (i := 394) (by decide +kernel)) rfl
theorem cd_X6_readCell : Cond.code yX6_readCell cX6_readCell 3 (some .boolean) ∈ tl_GW := tl_inGW (List.mem_of_getElem? (i := 395) (by decide +kernel)) rfl
theorem ml_X6_56 : Cond.methodLink RX6 56 yX6_readLamp ∈ tl_GW := tl_inGW (List.mem_of_getElem? (i := 396) (by decide +kernel)) rfl
theorem im_X6_readLamp : Cond.instanceMethod yX6_readLamp ∈ tl_GW := tl_inGW (List.mem_of_getElem? (i := 398) (by decide +kernel)) rfl
theorem cd_X6_readLamp : Cond.code yX6_readLamp cX6_readLamp 2 (some .boolean) ∈ tl_GW := tl_inGW (List.mem_of_getElem? (i := 399) (by decide +kernel)) rfl
theorem ml_L_194 : Cond.methodLink RL 194 yX9_doneIn ∈ tl_GW := tl_inGW (List.mem_of_getElem? (i := 400) (by decide +kernel)) rfl
theorem im_X9_doneIn : Cond.instanceMethod yX9_doneIn ∈ tl_GW := tl_inGW (List.mem_of_getElem? (i := 401) (by decide +kernel)) rfl
theorem se_X9_doneIn : Cond.selects RX9 yX9_doneIn yX9_doneIn ∈ tl_GW := tl_inGW (List.mem_of_getElem? (i := 402) (by decide +kernel)) rfl
theorem cd_X9_doneIn : Cond.code yX9_doneIn cX9_doneIn 2 (some .int) ∈ tl_GW := tl_inGW (List.mem_of_getElem? (i := 403) (by decide +kernel)) rfl
theorem ml_X9_75 : Cond.methodLink RX9 75 yX5_copyFrom ∈ tl_GW := tl_inGW (List.mem_of_getElem? (i := 404) (by decide +kernel)) rfl
theorem im_X5_copyFrom : Cond.instanceMethod yX5_copyFrom ∈ tl_GW := tl_inGW (List.mem_of_getElem? (i := 405) (by decide +kernel)) rfl
theorem se_X5_copyFrom : Cond.selects RX5 yX5_copyFrom yX5_copyFrom ∈ tl_GW := tl_inGW (List.mem_of_getElem? (i := 406) (by decide +kernel)) rfl
theorem cd_X5_copyFrom : Cond.code yX5_copyFrom cX5_copyFrom 3 none ∈ tl_GW := tl_inGW (List.mem_of_getElem? (i := 407) (by decide +kernel)) rfl
theorem ml_X5_43 : Cond.methodLink RX5 43 yX1_copyFrom ∈ tl_GW := tl_inGW (List.mem_of_getElem? (i := 408) (by decide +kernel)) rfl
theorem im_X1_copyFrom : Cond.instanceMethod yX1_copyFrom ∈ tl_GW := tl_inGW (List.mem_of_getElem? (i := 409) (by decide +kernel)) rfl
theorem se_X1_copyFrom : Cond.selects RX1 yX1_copyFrom yX1_copyFrom ∈ tl_GW := tl_inGW (List.mem_of_getElem? (i := 410) (by decide +kernel)) rfl
theorem cd_X1_copyFrom : Cond.code yX1_copyFrom cX1_copyFrom 2 none ∈ tl_GW := tl_inGW (List.mem_of_getElem? (i := 411) (by decide +kernel)) rfl
theorem ml_X5_47 : Cond.methodLink RX5 47 yX7_copyFrom ∈ tl_GW := tl_inGW (List.mem_of_getElem? (i := 412) (by decide +kernel)) rfl
theorem im_X7_copyFrom : Cond.instanceMethod yX7_copyFrom ∈ tl_GW := tl_inGW (List.mem_of_getElem? (i := 413) (by decide +kernel)) rfl
theorem se_X7_copyFrom : Cond.selects RX7 yX7_copyFrom yX7_copyFrom ∈ tl_GW := tl_inGW (List.mem_of_getElem? (i := 414) (by decide +kernel)) rfl
theorem cd_X7_copyFrom : Cond.code yX7_copyFrom cX7_copyFrom 2 none ∈ tl_GW := tl_inGW (List.mem_of_getElem? (i := 415) (by decide +kernel)) rfl
theorem ml_X5_50 : Cond.methodLink RX5 50 yX4_copyFrom ∈ tl_GW := tl_inGW (List.mem_of_getElem? (i := 416) (by decide +kernel)) rfl
theorem im_X4_copyFrom : Cond.instanceMethod yX4_copyFrom ∈ tl_GW := tl_inGW (List.mem_of_getElem? (i := 417) (by decide +kernel)) rfl
theorem se_X4_copyFrom : Cond.selects RX4 yX4_copyFrom yX4_copyFrom ∈ tl_GW := tl_inGW (List.mem_of_getElem? (i := 418) (by decide +kernel)) rfl
theorem cd_X4_copyFrom : Cond.code yX4_copyFrom cX4_copyFrom 2 none ∈ tl_GW := tl_inGW (List.mem_of_getElem? (i := 419) (by decide +kernel)) rfl
theorem ml_X5_53 : Cond.methodLink RX5 53 yX3_copyFrom ∈ tl_GW := tl_inGW (List.mem_of_getElem? (i := 420) (by decide +kernel)) rfl
theorem im_X3_copyFrom : Cond.instanceMethod yX3_copyFrom ∈ tl_GW := tl_inGW (List.mem_of_getElem? (i := 421) (by decide +kernel)) rfl
theorem se_X3_copyFrom : Cond.selects RX3 yX3_copyFrom yX3_copyFrom ∈ tl_GW := tl_inGW (List.mem_of_getElem? (i := 422) (by decide +kernel)) rfl
theorem cd_X3_copyFrom : Cond.code yX3_copyFrom cX3_copyFrom 3 none ∈ tl_GW := tl_inGW (List.mem_of_getElem? (i := 423) (by decide +kernel)) rfl
theorem ml_X3_22 : Cond.methodLink RX3 22 yX8_copyFrom ∈ tl_GW := tl_inGW (List.mem_of_getElem? (i := 424) (by decide +kernel)) rfl
theorem im_X8_copyFrom : Cond.instanceMethod yX8_copyFrom ∈ tl_GW := tl_inGW (List.mem_of_getElem? (i := 425) (by decide +kernel)) rfl
theorem se_X8_copyFrom : Cond.selects RX8 yX8_copyFrom yX8_copyFrom ∈ tl_GW := tl_inGW (List.mem_of_getElem? (i := 426) (by decide +kernel)) rfl
theorem cd_X8_copyFrom : Cond.code yX8_copyFrom cX8_copyFrom 2 none ∈ tl_GW := tl_inGW (List.mem_of_getElem? (i := 427) (by decide +kernel)) rfl
theorem ml_X9_245 : Cond.methodLink RX9 245 yX5_letHoursGo ∈ tl_GW := tl_inGW (List.mem_of_getElem? (i := 428) (by decide +kernel)) rfl
theorem im_X5_letHoursGo : Cond.instanceMethod yX5_letHoursGo ∈ tl_GW := tl_inGW (List.mem_of_getElem? (i := 429) (by decide +kernel)) rfl
theorem se_X5_letHoursGo : Cond.selects RX5 yX5_letHoursGo yX5_letHoursGo ∈ tl_GW := tl_inGW (List.mem_of_getElem? (i := 430) (by decide +kernel)) rfl
theorem cd_X5_letHoursGo : Cond.code yX5_letHoursGo cX5_letHoursGo 4 (some .int) ∈ tl_GW := tl_inGW (List.mem_of_getElem? (i := 431) (by decide +kernel)) rfl
theorem ml_X5_226 : Cond.methodLink RX5 226 yX5_minersWork ∈ tl_GW := tl_inGW (List.mem_of_getElem? (i := 432) (by decide +kernel)) rfl
theorem im_X5_minersWork : Cond.instanceMethod yX5_minersWork ∈ tl_GW := tl_inGW (List.mem_of_getElem? (i := 434) (by decide +kernel)) rfl
theorem cd_X5_minersWork : Cond.code yX5_minersWork cX5_minersWork 4 none ∈ tl_GW := tl_inGW (List.mem_of_getElem? (i := 435) (by decide +kernel)) rfl
theorem ml_X5_89 : Cond.methodLink RX5 89 yX5_hasGallery ∈ tl_GW := tl_inGW (List.mem_of_getElem? (i := 436) (by decide +kernel)) rfl
theorem im_X5_hasGallery : Cond.instanceMethod yX5_hasGallery ∈ tl_GW := tl_inGW (List.mem_of_getElem? (i := 437) (by decide +kernel)) rfl
theorem se_X5_hasGallery : Cond.selects RX5 yX5_hasGallery yX5_hasGallery ∈ tl_GW := tl_inGW (List.mem_of_getElem? (i := 438) (by decide +kernel)) rfl
theorem cd_X5_hasGallery : Cond.code yX5_hasGallery cX5_hasGallery 2 (some .boolean) ∈ tl_GW := tl_inGW (List.mem_of_getElem? (i := 439) (by decide +kernel)) rfl
theorem ml_X5_107 : Cond.methodLink RX5 107 yX5_isLit ∈ tl_GW := tl_inGW (List.mem_of_getElem? (i := 440) (by decide +kernel)) rfl
theorem im_X5_isLit : Cond.instanceMethod yX5_isLit ∈ tl_GW := tl_inGW (List.mem_of_getElem? (i := 441) (by decide +kernel)) rfl
theorem se_X5_isLit : Cond.selects RX5 yX5_isLit yX5_isLit ∈ tl_GW := tl_inGW (List.mem_of_getElem? (i := 442) (by decide +kernel)) rfl
theorem cd_X5_isLit : Cond.code yX5_isLit cX5_isLit 4 (some .boolean) ∈ tl_GW := tl_inGW (List.mem_of_getElem? (i := 443) (by decide +kernel)) rfl
theorem ml_X5_103 : Cond.methodLink RX5 103 yX4_lights ∈ tl_GW := tl_inGW (List.mem_of_getElem? (i := 444) (by decide +kernel)) rfl
theorem im_X4_lights : Cond.instanceMethod yX4_lights ∈ tl_GW := tl_inGW (List.mem_of_getElem? (i := 445) (by decide +kernel)) rfl
theorem se_X4_lights : Cond.selects RX4 yX4_lights yX4_lights ∈ tl_GW := tl_inGW (List.mem_of_getElem? (i := 446) (by decide +kernel)) rfl
theorem cd_X4_lights : Cond.code yX4_lights cX4_lights 3 (some .boolean) ∈ tl_GW := tl_inGW (List.mem_of_getElem? (i := 447) (by decide +kernel)) rfl
theorem ml_X4_22 : Cond.methodLink RX4 22 yX4_burnsIn ∈ tl_GW := tl_inGW (List.mem_of_getElem? (i := 448) (by decide +kernel)) rfl
theorem im_X4_burnsIn : Cond.instanceMethod yX4_burnsIn ∈ tl_GW := tl_inGW (List.mem_of_getElem? (i := 449) (by decide +kernel)) rfl
theorem se_X4_burnsIn : Cond.selects RX4 yX4_burnsIn yX4_burnsIn ∈ tl_GW := tl_inGW (List.mem_of_getElem? (i := 450) (by decide +kernel)) rfl
theorem cd_X4_burnsIn : Cond.code yX4_burnsIn cX4_burnsIn 2 (some .boolean) ∈ tl_GW := tl_inGW (List.mem_of_getElem? (i := 451) (by decide +kernel)) rfl
theorem ml_X5_238 : Cond.methodLink RX5 238 yX1_strike ∈ tl_GW := tl_inGW (List.mem_of_getElem? (i := 452) (by decide +kernel)) rfl
theorem im_X1_strike : Cond.instanceMethod yX1_strike ∈ tl_GW := tl_inGW (List.mem_of_getElem? (i := 453) (by decide +kernel)) rfl
theorem se_X1_strike : Cond.selects RX1 yX1_strike yX1_strike ∈ tl_GW := tl_inGW (List.mem_of_getElem? (i := 454) (by decide +kernel)) rfl
theorem cd_X1_strike : Cond.code yX1_strike cX1_strike 4 (some .int) ∈ tl_GW := tl_inGW (List.mem_of_getElem? (i := 455) (by decide +kernel)) rfl
theorem sm_X9_strokesFor : Cond.static yX9_strokesFor ∈ tl_GW := tl_inGW (List.mem_of_getElem? (i := 457) (by decide +kernel)) rfl
theorem cd_X9_strokesFor : Cond.code yX9_strokesFor cX9_strokesFor 2 (some .int) ∈ tl_GW := tl_inGW (List.mem_of_getElem? (i := 458) (by decide +kernel)) rfl
theorem ml_X5_229 : Cond.methodLink RX5 229 yX5_lampsBurn ∈ tl_GW := tl_inGW (List.mem_of_getElem? (i := 459) (by decide +kernel)) rfl
theorem im_X5_lampsBurn : Cond.instanceMethod yX5_lampsBurn ∈ tl_GW := tl_inGW (List.mem_of_getElem? (i := 461) (by decide +kernel)) rfl
theorem cd_X5_lampsBurn : Cond.code yX5_lampsBurn cX5_lampsBurn 2 none ∈ tl_GW := tl_inGW (List.mem_of_getElem? (i := 462) (by decide +kernel)) rfl
theorem ml_X5_232 : Cond.methodLink RX5 232 yX5_ladWorks ∈ tl_GW := tl_inGW (List.mem_of_getElem? (i := 463) (by decide +kernel)) rfl
theorem im_X5_ladWorks : Cond.instanceMethod yX5_ladWorks ∈ tl_GW := tl_inGW (List.mem_of_getElem? (i := 464) (by decide +kernel)) rfl
theorem se_X5_ladWorks : Cond.selects RX5 yX5_ladWorks yX5_ladWorks ∈ tl_GW := tl_inGW (List.mem_of_getElem? (i := 465) (by decide +kernel)) rfl
theorem cd_X5_ladWorks : Cond.code yX5_ladWorks cX5_ladWorks 4 (some .int) ∈ tl_GW := tl_inGW (List.mem_of_getElem? (i := 466) (by decide +kernel)) rfl
theorem ml_X5_241 : Cond.methodLink RX5 241 yX5_doesWhatNeedsNoStep ∈ tl_GW := tl_inGW (List.mem_of_getElem? (i := 467) (by decide +kernel)) rfl
theorem im_X5_doesWhatNeedsNoStep : Cond.instanceMethod yX5_doesWhatNeedsNoStep ∈ tl_GW := tl_inGW (List.mem_of_getElem? (i := 469) (by decide +kernel)) rfl
theorem cd_X5_doesWhatNeedsNoStep : Cond.code yX5_doesWhatNeedsNoStep cX5_doesWhatNeedsNoStep 3 (some .boolean) ∈ tl_GW := tl_inGW (List.mem_of_getElem? (i := 470) (by decide +kernel)) rfl
theorem ml_X5_166 : Cond.methodLink RX5 166 yX5_hasLamp ∈ tl_GW := tl_inGW (List.mem_of_getElem? (i := 471) (by decide +kernel)) rfl
theorem im_X5_hasLamp : Cond.instanceMethod yX5_hasLamp ∈ tl_GW := tl_inGW (List.mem_of_getElem? (i := 472) (by decide +kernel)) rfl
theorem se_X5_hasLamp : Cond.selects RX5 yX5_hasLamp yX5_hasLamp ∈ tl_GW := tl_inGW (List.mem_of_getElem? (i := 473) (by decide +kernel)) rfl
theorem cd_X5_hasLamp : Cond.code yX5_hasLamp cX5_hasLamp 2 (some .boolean) ∈ tl_GW := tl_inGW (List.mem_of_getElem? (i := 474) (by decide +kernel)) rfl
theorem ml_X5_260 : Cond.methodLink RX5 260 yX5_takesLamp ∈ tl_GW := tl_inGW (List.mem_of_getElem? (i := 475) (by decide +kernel)) rfl
theorem im_X5_takesLamp : Cond.instanceMethod yX5_takesLamp ∈ tl_GW := tl_inGW (List.mem_of_getElem? (i := 477) (by decide +kernel)) rfl
theorem cd_X5_takesLamp : Cond.code yX5_takesLamp cX5_takesLamp 3 (some .boolean) ∈ tl_GW := tl_inGW (List.mem_of_getElem? (i := 478) (by decide +kernel)) rfl
theorem ml_X5_279 : Cond.methodLink RX5 279 yX3_isAt ∈ tl_GW := tl_inGW (List.mem_of_getElem? (i := 479) (by decide +kernel)) rfl
theorem im_X3_isAt : Cond.instanceMethod yX3_isAt ∈ tl_GW := tl_inGW (List.mem_of_getElem? (i := 480) (by decide +kernel)) rfl
theorem se_X3_isAt : Cond.selects RX3 yX3_isAt yX3_isAt ∈ tl_GW := tl_inGW (List.mem_of_getElem? (i := 481) (by decide +kernel)) rfl
theorem cd_X3_isAt : Cond.code yX3_isAt cX3_isAt 3 (some .boolean) ∈ tl_GW := tl_inGW (List.mem_of_getElem? (i := 482) (by decide +kernel)) rfl
theorem ml_X5_264 : Cond.methodLink RX5 264 yX5_hangsLamp ∈ tl_GW := tl_inGW (List.mem_of_getElem? (i := 483) (by decide +kernel)) rfl
theorem im_X5_hangsLamp : Cond.instanceMethod yX5_hangsLamp ∈ tl_GW := tl_inGW (List.mem_of_getElem? (i := 485) (by decide +kernel)) rfl
theorem cd_X5_hangsLamp : Cond.code yX5_hangsLamp cX5_hangsLamp 3 (some .boolean) ∈ tl_GW := tl_inGW (List.mem_of_getElem? (i := 486) (by decide +kernel)) rfl
theorem ml_X5_206 : Cond.methodLink RX5 206 yX3_removeOrder ∈ tl_GW := tl_inGW (List.mem_of_getElem? (i := 487) (by decide +kernel)) rfl
theorem im_X3_removeOrder : Cond.instanceMethod yX3_removeOrder ∈ tl_GW := tl_inGW (List.mem_of_getElem? (i := 488) (by decide +kernel)) rfl
theorem se_X3_removeOrder : Cond.selects RX3 yX3_removeOrder yX3_removeOrder ∈ tl_GW := tl_inGW (List.mem_of_getElem? (i := 489) (by decide +kernel)) rfl
theorem cd_X3_removeOrder : Cond.code yX3_removeOrder cX3_removeOrder 4 (some .int) ∈ tl_GW := tl_inGW (List.mem_of_getElem? (i := 490) (by decide +kernel)) rfl
theorem ml_X5_271 : Cond.methodLink RX5 271 yX5_poursOil ∈ tl_GW := tl_inGW (List.mem_of_getElem? (i := 491) (by decide +kernel)) rfl
theorem im_X5_poursOil : Cond.instanceMethod yX5_poursOil ∈ tl_GW := tl_inGW (List.mem_of_getElem? (i := 493) (by decide +kernel)) rfl
theorem cd_X5_poursOil : Cond.code yX5_poursOil cX5_poursOil 3 (some .boolean) ∈ tl_GW := tl_inGW (List.mem_of_getElem? (i := 494) (by decide +kernel)) rfl
theorem ml_X5_122 : Cond.methodLink RX5 122 yJ9_min_7cf53 ∈ tl_GW := tl_inGW (List.mem_of_getElem? (i := 495) (by decide +kernel)) rfl
theorem sm_J9_min_7cf53 : Cond.static yJ9_min_7cf53 ∈ tl_GW := tl_inGW (List.mem_of_getElem? (i := 496) (by decide +kernel)) rfl
theorem cd_J9_min_7cf53 : Cond.code yJ9_min_7cf53 cJ9_min_7cf53 2 (some .int) ∈ tl_GW := tl_inGW (List.mem_of_getElem? (i := 497) (by decide +kernel)) rfl
theorem ml_X5_275 : Cond.methodLink RX5 275 yX5_fetchesOil ∈ tl_GW := tl_inGW (List.mem_of_getElem? (i := 498) (by decide +kernel)) rfl
theorem im_X5_fetchesOil : Cond.instanceMethod yX5_fetchesOil ∈ tl_GW := tl_inGW (List.mem_of_getElem? (i := 500) (by decide +kernel)) rfl
theorem cd_X5_fetchesOil : Cond.code yX5_fetchesOil cX5_fetchesOil 2 (some .boolean) ∈ tl_GW := tl_inGW (List.mem_of_getElem? (i := 501) (by decide +kernel)) rfl
theorem ml_X5_244 : Cond.methodLink RX5 244 yX5_makesStep ∈ tl_GW := tl_inGW (List.mem_of_getElem? (i := 502) (by decide +kernel)) rfl
theorem im_X5_makesStep : Cond.instanceMethod yX5_makesStep ∈ tl_GW := tl_inGW (List.mem_of_getElem? (i := 504) (by decide +kernel)) rfl
theorem cd_X5_makesStep : Cond.code yX5_makesStep cX5_makesStep 2 none ∈ tl_GW := tl_inGW (List.mem_of_getElem? (i := 505) (by decide +kernel)) rfl
theorem ml_X5_290 : Cond.methodLink RX5 290 yX3_stepTowards ∈ tl_GW := tl_inGW (List.mem_of_getElem? (i := 506) (by decide +kernel)) rfl
theorem im_X3_stepTowards : Cond.instanceMethod yX3_stepTowards ∈ tl_GW := tl_inGW (List.mem_of_getElem? (i := 507) (by decide +kernel)) rfl
theorem se_X3_stepTowards : Cond.selects RX3 yX3_stepTowards yX3_stepTowards ∈ tl_GW := tl_inGW (List.mem_of_getElem? (i := 508) (by decide +kernel)) rfl
theorem cd_X3_stepTowards : Cond.code yX3_stepTowards cX3_stepTowards 3 none ∈ tl_GW := tl_inGW (List.mem_of_getElem? (i := 509) (by decide +kernel)) rfl
theorem ml_X5_235 : Cond.methodLink RX5 235 yX5_ladSeesTheDark ∈ tl_GW := tl_inGW (List.mem_of_getElem? (i := 510) (by decide +kernel)) rfl
theorem im_X5_ladSeesTheDark : Cond.instanceMethod yX5_ladSeesTheDark ∈ tl_GW := tl_inGW (List.mem_of_getElem? (i := 512) (by decide +kernel)) rfl
theorem cd_X5_ladSeesTheDark : Cond.code yX5_ladSeesTheDark cX5_ladSeesTheDark 4 none ∈ tl_GW := tl_inGW (List.mem_of_getElem? (i := 513) (by decide +kernel)) rfl
theorem ml_X5_294 : Cond.methodLink RX5 294 yX5_minersIn ∈ tl_GW := tl_inGW (List.mem_of_getElem? (i := 514) (by decide +kernel)) rfl
theorem im_X5_minersIn : Cond.instanceMethod yX5_minersIn ∈ tl_GW := tl_inGW (List.mem_of_getElem? (i := 515) (by decide +kernel)) rfl
theorem se_X5_minersIn : Cond.selects RX5 yX5_minersIn yX5_minersIn ∈ tl_GW := tl_inGW (List.mem_of_getElem? (i := 516) (by decide +kernel)) rfl
theorem cd_X5_minersIn : Cond.code yX5_minersIn cX5_minersIn 4 (some .int) ∈ tl_GW := tl_inGW (List.mem_of_getElem? (i := 517) (by decide +kernel)) rfl
theorem ml_X5_297 : Cond.methodLink RX5 297 yX5_fullestLampBelow ∈ tl_GW := tl_inGW (List.mem_of_getElem? (i := 518) (by decide +kernel)) rfl
theorem im_X5_fullestLampBelow : Cond.instanceMethod yX5_fullestLampBelow ∈ tl_GW := tl_inGW (List.mem_of_getElem? (i := 520) (by decide +kernel)) rfl
theorem cd_X5_fullestLampBelow : Cond.code yX5_fullestLampBelow cX5_fullestLampBelow 6 (some .int) ∈ tl_GW := tl_inGW (List.mem_of_getElem? (i := 521) (by decide +kernel)) rfl
theorem ml_X5_125 : Cond.methodLink RX5 125 yX4_burnsIn ∈ tl_GW := tl_inGW (List.mem_of_getElem? (i := 522) (by decide +kernel)) rfl
theorem ml_X5_199 : Cond.methodLink RX5 199 yX3_addHang ∈ tl_GW := tl_inGW (List.mem_of_getElem? (i := 523) (by decide +kernel)) rfl
theorem im_X3_addHang : Cond.instanceMethod yX3_addHang ∈ tl_GW := tl_inGW (List.mem_of_getElem? (i := 524) (by decide +kernel)) rfl
theorem se_X3_addHang : Cond.selects RX3 yX3_addHang yX3_addHang ∈ tl_GW := tl_inGW (List.mem_of_getElem? (i := 525) (by decide +kernel)) rfl
theorem cd_X3_addHang : Cond.code yX3_addHang cX3_addHang 4 (some .int) ∈ tl_GW := tl_inGW (List.mem_of_getElem? (i := 526) (by decide +kernel)) rfl
theorem ml_X3_42 : Cond.methodLink RX3 42 yX3_addOrder ∈ tl_GW := tl_inGW (List.mem_of_getElem? (i := 527) (by decide +kernel)) rfl
theorem im_X3_addOrder : Cond.instanceMethod yX3_addOrder ∈ tl_GW := tl_inGW (List.mem_of_getElem? (i := 529) (by decide +kernel)) rfl
theorem cd_X3_addOrder : Cond.code yX3_addOrder cX3_addOrder 7 (some .int) ∈ tl_GW := tl_inGW (List.mem_of_getElem? (i := 530) (by decide +kernel)) rfl
theorem ml_X3_46 : Cond.methodLink RX3 46 yX3_hasRoomForOrder ∈ tl_GW := tl_inGW (List.mem_of_getElem? (i := 531) (by decide +kernel)) rfl
theorem im_X3_hasRoomForOrder : Cond.instanceMethod yX3_hasRoomForOrder ∈ tl_GW := tl_inGW (List.mem_of_getElem? (i := 532) (by decide +kernel)) rfl
theorem se_X3_hasRoomForOrder : Cond.selects RX3 yX3_hasRoomForOrder yX3_hasRoomForOrder ∈ tl_GW := tl_inGW (List.mem_of_getElem? (i := 533) (by decide +kernel)) rfl
theorem cd_X3_hasRoomForOrder : Cond.code yX3_hasRoomForOrder cX3_hasRoomForOrder 1 (some .boolean) ∈ tl_GW := tl_inGW (List.mem_of_getElem? (i := 534) (by decide +kernel)) rfl
theorem ml_L_110 : Cond.methodLink RL 110 yL_append ∈ tl_GW := tl_inGW (List.mem_of_getElem? (i := 535) (by decide +kernel)) rfl
theorem sm_L_append : Cond.static yL_append ∈ tl_GW := tl_inGW (List.mem_of_getElem? (i := 536) (by decide +kernel)) rfl
theorem kk_L_13 : Cond.classLink RL 13 "java/lang/IllegalArgumentException" ∈ tl_GW := tl_inGW (List.mem_of_getElem? (i := 538) (by decide +kernel)) rfl
theorem kk_L_15 : Cond.classLink RL 15 "java/lang/IllegalStateException" ∈ tl_GW := tl_inGW (List.mem_of_getElem? (i := 539) (by decide +kernel)) rfl
theorem ml_L_7 : Cond.methodLink RL 7 yX9_append ∈ tl_GW := tl_inGW (List.mem_of_getElem? (i := 540) (by decide +kernel)) rfl
theorem im_X9_append : Cond.instanceMethod yX9_append ∈ tl_GW := tl_inGW (List.mem_of_getElem? (i := 541) (by decide +kernel)) rfl
theorem se_X9_append : Cond.selects RX9 yX9_append yX9_append ∈ tl_GW := tl_inGW (List.mem_of_getElem? (i := 542) (by decide +kernel)) rfl
theorem cd_X9_append : Cond.code yX9_append cX9_append 2 (some .int) ∈ tl_GW := tl_inGW (List.mem_of_getElem? (i := 543) (by decide +kernel)) rfl
theorem ml_X9_51 : Cond.methodLink RX9 51 yX9_isWithin ∈ tl_GW := tl_inGW (List.mem_of_getElem? (i := 544) (by decide +kernel)) rfl
theorem ml_X9_55 : Cond.methodLink RX9 55 yX6_isFull ∈ tl_GW := tl_inGW (List.mem_of_getElem? (i := 545) (by decide +kernel)) rfl
theorem im_X6_isFull : Cond.instanceMethod yX6_isFull ∈ tl_GW := tl_inGW (List.mem_of_getElem? (i := 546) (by decide +kernel)) rfl
theorem se_X6_isFull : Cond.selects RX6 yX6_isFull yX6_isFull ∈ tl_GW := tl_inGW (List.mem_of_getElem? (i := 547) (by decide +kernel)) rfl
theorem cd_X6_isFull : Cond.code yX6_isFull cX6_isFull 1 (some .boolean) ∈ tl_GW := tl_inGW (List.mem_of_getElem? (i := 548) (by decide +kernel)) rfl
theorem ml_X9_59 : Cond.methodLink RX9 59 yX9_demand ∈ tl_GW := tl_inGW (List.mem_of_getElem? (i := 549) (by decide +kernel)) rfl
theorem sm_X9_demand : Cond.static yX9_demand ∈ tl_GW := tl_inGW (List.mem_of_getElem? (i := 550) (by decide +kernel)) rfl
theorem cd_X9_demand : Cond.code yX9_demand cX9_demand 3 none ∈ tl_GW := tl_inGW (List.mem_of_getElem? (i := 551) (by decide +kernel)) rfl
theorem ml_X9_308 : Cond.methodLink RX9 308 yX9_refusalOf ∈ tl_GW := tl_inGW (List.mem_of_getElem? (i := 552) (by decide +kernel)) rfl
theorem sm_X9_refusalOf : Cond.static yX9_refusalOf ∈ tl_GW := tl_inGW (List.mem_of_getElem? (i := 553) (by decide +kernel)) rfl
theorem cd_X9_refusalOf : Cond.code yX9_refusalOf cX9_refusalOf 3 (some .int) ∈ tl_GW := tl_inGW (List.mem_of_getElem? (i := 554) (by decide +kernel)) rfl
theorem ml_X9_299 : Cond.methodLink RX9 299 yX9_throwFor ∈ tl_GW := tl_inGW (List.mem_of_getElem? (i := 555) (by decide +kernel)) rfl
theorem sm_X9_throwFor : Cond.static yX9_throwFor ∈ tl_GW := tl_inGW (List.mem_of_getElem? (i := 556) (by decide +kernel)) rfl
theorem cd_X9_throwFor : Cond.code yX9_throwFor cX9_throwFor 1 none ∈ tl_GW := tl_inGW (List.mem_of_getElem? (i := 557) (by decide +kernel)) rfl
theorem kk_X9_312 : Cond.classLink RX9 312 "java/lang/IndexOutOfBoundsException" ∈ tl_GW := tl_inGW (List.mem_of_getElem? (i := 558) (by decide +kernel)) rfl
theorem ia_java_lang_IndexOutOfBoundsException : Cond.instantiable "java/lang/IndexOutOfBoundsException" 6 ∈ tl_GW := tl_inGW (List.mem_of_getElem? (i := 559) (by decide +kernel)) rfl
theorem ia_java_lang_Throwable : Cond.instantiable "java/lang/Throwable" 6 ∈ tl_GW := tl_inGW (List.mem_of_getElem? (i := 597) (by decide +kernel)) rfl
theorem ml_X9_316 : Cond.methodLink RX9 316 ⟨"java/lang/IndexOutOfBoundsException", "<init>", "(Ljava/lang/String;)V"⟩ ∈ tl_GW := tl_inGW (List.mem_of_getElem? (i := 600) (by decide +kernel)) rfl
theorem ac_byte : Cond.arrayClass .byte ∈ tl_GW := tl_inGW (List.mem_of_getElem? (i := 625) (by decide +kernel)) rfl
theorem kk_X9_319 : Cond.classLink RX9 319 "java/lang/IllegalArgumentException" ∈ tl_GW := tl_inGW (List.mem_of_getElem? (i := 626) (by decide +kernel)) rfl
theorem ia_java_lang_IllegalArgumentException : Cond.instantiable "java/lang/IllegalArgumentException" 6 ∈ tl_GW := tl_inGW (List.mem_of_getElem? (i := 627) (by decide +kernel)) rfl
theorem ml_X9_323 : Cond.methodLink RX9 323 ⟨"java/lang/IllegalArgumentException", "<init>", "(Ljava/lang/String;)V"⟩ ∈ tl_GW := tl_inGW (List.mem_of_getElem? (i := 636) (by decide +kernel)) rfl
theorem kk_X9_324 : Cond.classLink RX9 324 "java/lang/IllegalStateException" ∈ tl_GW := tl_inGW (List.mem_of_getElem? (i := 642) (by decide +kernel)) rfl
theorem ia_java_lang_IllegalStateException : Cond.instantiable "java/lang/IllegalStateException" 6 ∈ tl_GW := tl_inGW (List.mem_of_getElem? (i := 643) (by decide +kernel)) rfl
theorem ml_X9_328 : Cond.methodLink RX9 328 ⟨"java/lang/IllegalStateException", "<init>", "(Ljava/lang/String;)V"⟩ ∈ tl_GW := tl_inGW (List.mem_of_getElem? (i := 652) (by decide +kernel)) rfl
theorem ml_X9_63 : Cond.methodLink RX9 63 yX6_add ∈ tl_GW := tl_inGW (List.mem_of_getElem? (i := 658) (by decide +kernel)) rfl
theorem im_X6_add : Cond.instanceMethod yX6_add ∈ tl_GW := tl_inGW (List.mem_of_getElem? (i := 659) (by decide +kernel)) rfl
theorem se_X6_add : Cond.selects RX6 yX6_add yX6_add ∈ tl_GW := tl_inGW (List.mem_of_getElem? (i := 660) (by decide +kernel)) rfl
theorem cd_X6_add : Cond.code yX6_add cX6_add 2 (some .int) ∈ tl_GW := tl_inGW (List.mem_of_getElem? (i := 661) (by decide +kernel)) rfl
theorem ml_L_127 : Cond.methodLink RL 127 yL_load ∈ tl_GW := tl_inGW (List.mem_of_getElem? (i := 662) (by decide +kernel)) rfl
theorem sm_L_load : Cond.static yL_load ∈ tl_GW := tl_inGW (List.mem_of_getElem? (i := 663) (by decide +kernel)) rfl
theorem ml_L_17 : Cond.methodLink RL 17 yX9_load ∈ tl_GW := tl_inGW (List.mem_of_getElem? (i := 665) (by decide +kernel)) rfl
theorem im_X9_load : Cond.instanceMethod yX9_load ∈ tl_GW := tl_inGW (List.mem_of_getElem? (i := 666) (by decide +kernel)) rfl
theorem se_X9_load : Cond.selects RX9 yX9_load yX9_load ∈ tl_GW := tl_inGW (List.mem_of_getElem? (i := 667) (by decide +kernel)) rfl
theorem cd_X9_load : Cond.code yX9_load cX9_load 3 (some .int) ∈ tl_GW := tl_inGW (List.mem_of_getElem? (i := 668) (by decide +kernel)) rfl
theorem ml_X9_79 : Cond.methodLink RX9 79 yX2_forgetAll ∈ tl_GW := tl_inGW (List.mem_of_getElem? (i := 669) (by decide +kernel)) rfl
theorem im_X2_forgetAll : Cond.instanceMethod yX2_forgetAll ∈ tl_GW := tl_inGW (List.mem_of_getElem? (i := 670) (by decide +kernel)) rfl
theorem se_X2_forgetAll : Cond.selects RX2 yX2_forgetAll yX2_forgetAll ∈ tl_GW := tl_inGW (List.mem_of_getElem? (i := 671) (by decide +kernel)) rfl
theorem cd_X2_forgetAll : Cond.code yX2_forgetAll cX2_forgetAll 1 none ∈ tl_GW := tl_inGW (List.mem_of_getElem? (i := 672) (by decide +kernel)) rfl
theorem ml_X9_82 : Cond.methodLink RX9 82 yX6_startCommands ∈ tl_GW := tl_inGW (List.mem_of_getElem? (i := 673) (by decide +kernel)) rfl
theorem ml_X9_85 : Cond.methodLink RX9 85 yX6_readCommand ∈ tl_GW := tl_inGW (List.mem_of_getElem? (i := 674) (by decide +kernel)) rfl
theorem ml_X9_89 : Cond.methodLink RX9 89 yX5_attempt ∈ tl_GW := tl_inGW (List.mem_of_getElem? (i := 675) (by decide +kernel)) rfl
theorem im_X5_attempt : Cond.instanceMethod yX5_attempt ∈ tl_GW := tl_inGW (List.mem_of_getElem? (i := 676) (by decide +kernel)) rfl
theorem se_X5_attempt : Cond.selects RX5 yX5_attempt yX5_attempt ∈ tl_GW := tl_inGW (List.mem_of_getElem? (i := 677) (by decide +kernel)) rfl
theorem cd_X5_attempt : Cond.code yX5_attempt cX5_attempt 2 (some .boolean) ∈ tl_GW := tl_inGW (List.mem_of_getElem? (i := 678) (by decide +kernel)) rfl
theorem ml_X5_128 : Cond.methodLink RX5 128 yX5_refusal ∈ tl_GW := tl_inGW (List.mem_of_getElem? (i := 679) (by decide +kernel)) rfl
theorem im_X5_refusal : Cond.instanceMethod yX5_refusal ∈ tl_GW := tl_inGW (List.mem_of_getElem? (i := 680) (by decide +kernel)) rfl
theorem se_X5_refusal : Cond.selects RX5 yX5_refusal yX5_refusal ∈ tl_GW := tl_inGW (List.mem_of_getElem? (i := 681) (by decide +kernel)) rfl
theorem cd_X5_refusal : Cond.code yX5_refusal cX5_refusal 2 (some .int) ∈ tl_GW := tl_inGW (List.mem_of_getElem? (i := 682) (by decide +kernel)) rfl
theorem ml_X5_154 : Cond.methodLink RX5 154 yX5_hasMiner ∈ tl_GW := tl_inGW (List.mem_of_getElem? (i := 685) (by decide +kernel)) rfl
theorem im_X5_hasMiner : Cond.instanceMethod yX5_hasMiner ∈ tl_GW := tl_inGW (List.mem_of_getElem? (i := 686) (by decide +kernel)) rfl
theorem se_X5_hasMiner : Cond.selects RX5 yX5_hasMiner yX5_hasMiner ∈ tl_GW := tl_inGW (List.mem_of_getElem? (i := 687) (by decide +kernel)) rfl
theorem cd_X5_hasMiner : Cond.code yX5_hasMiner cX5_hasMiner 2 (some .boolean) ∈ tl_GW := tl_inGW (List.mem_of_getElem? (i := 688) (by decide +kernel)) rfl
theorem ml_X5_157 : Cond.methodLink RX5 157 yX5_hasCell ∈ tl_GW := tl_inGW (List.mem_of_getElem? (i := 689) (by decide +kernel)) rfl
theorem im_X5_hasCell : Cond.instanceMethod yX5_hasCell ∈ tl_GW := tl_inGW (List.mem_of_getElem? (i := 690) (by decide +kernel)) rfl
theorem se_X5_hasCell : Cond.selects RX5 yX5_hasCell yX5_hasCell ∈ tl_GW := tl_inGW (List.mem_of_getElem? (i := 691) (by decide +kernel)) rfl
theorem cd_X5_hasCell : Cond.code yX5_hasCell cX5_hasCell 3 (some .boolean) ∈ tl_GW := tl_inGW (List.mem_of_getElem? (i := 692) (by decide +kernel)) rfl
theorem ml_X5_169 : Cond.methodLink RX5 169 yX3_hasRoomForOrder ∈ tl_GW := tl_inGW (List.mem_of_getElem? (i := 693) (by decide +kernel)) rfl
theorem ml_X5_173 : Cond.methodLink RX5 173 yX3_hasOrder ∈ tl_GW := tl_inGW (List.mem_of_getElem? (i := 694) (by decide +kernel)) rfl
theorem im_X3_hasOrder : Cond.instanceMethod yX3_hasOrder ∈ tl_GW := tl_inGW (List.mem_of_getElem? (i := 695) (by decide +kernel)) rfl
theorem se_X3_hasOrder : Cond.selects RX3 yX3_hasOrder yX3_hasOrder ∈ tl_GW := tl_inGW (List.mem_of_getElem? (i := 696) (by decide +kernel)) rfl
theorem cd_X3_hasOrder : Cond.code yX3_hasOrder cX3_hasOrder 2 (some .boolean) ∈ tl_GW := tl_inGW (List.mem_of_getElem? (i := 697) (by decide +kernel)) rfl
theorem ml_X5_176 : Cond.methodLink RX5 176 yX3_handsAreFree ∈ tl_GW := tl_inGW (List.mem_of_getElem? (i := 698) (by decide +kernel)) rfl
theorem im_X3_handsAreFree : Cond.instanceMethod yX3_handsAreFree ∈ tl_GW := tl_inGW (List.mem_of_getElem? (i := 699) (by decide +kernel)) rfl
theorem se_X3_handsAreFree : Cond.selects RX3 yX3_handsAreFree yX3_handsAreFree ∈ tl_GW := tl_inGW (List.mem_of_getElem? (i := 700) (by decide +kernel)) rfl
theorem cd_X3_handsAreFree : Cond.code yX3_handsAreFree cX3_handsAreFree 1 (some .boolean) ∈ tl_GW := tl_inGW (List.mem_of_getElem? (i := 701) (by decide +kernel)) rfl
theorem ml_X5_179 : Cond.methodLink RX5 179 yX5_isSetting ∈ tl_GW := tl_inGW (List.mem_of_getElem? (i := 702) (by decide +kernel)) rfl
theorem sm_X5_isSetting : Cond.static yX5_isSetting ∈ tl_GW := tl_inGW (List.mem_of_getElem? (i := 703) (by decide +kernel)) rfl
theorem cd_X5_isSetting : Cond.code yX5_isSetting cX5_isSetting 2 (some .boolean) ∈ tl_GW := tl_inGW (List.mem_of_getElem? (i := 704) (by decide +kernel)) rfl
theorem ml_X5_132 : Cond.methodLink RX5 132 yX5_perform ∈ tl_GW := tl_inGW (List.mem_of_getElem? (i := 705) (by decide +kernel)) rfl
theorem im_X5_perform : Cond.instanceMethod yX5_perform ∈ tl_GW := tl_inGW (List.mem_of_getElem? (i := 706) (by decide +kernel)) rfl
theorem se_X5_perform : Cond.selects RX5 yX5_perform yX5_perform ∈ tl_GW := tl_inGW (List.mem_of_getElem? (i := 707) (by decide +kernel)) rfl
theorem cd_X5_perform : Cond.code yX5_perform cX5_perform 2 (some .int) ∈ tl_GW := tl_inGW (List.mem_of_getElem? (i := 708) (by decide +kernel)) rfl
theorem ml_X5_182 : Cond.methodLink RX5 182 yX5_addGallery ∈ tl_GW := tl_inGW (List.mem_of_getElem? (i := 709) (by decide +kernel)) rfl
theorem im_X5_addGallery : Cond.instanceMethod yX5_addGallery ∈ tl_GW := tl_inGW (List.mem_of_getElem? (i := 711) (by decide +kernel)) rfl
theorem cd_X5_addGallery : Cond.code yX5_addGallery cX5_addGallery 3 (some .int) ∈ tl_GW := tl_inGW (List.mem_of_getElem? (i := 712) (by decide +kernel)) rfl
theorem ml_X5_186 : Cond.methodLink RX5 186 yX5_addMiner ∈ tl_GW := tl_inGW (List.mem_of_getElem? (i := 713) (by decide +kernel)) rfl
theorem im_X5_addMiner : Cond.instanceMethod yX5_addMiner ∈ tl_GW := tl_inGW (List.mem_of_getElem? (i := 715) (by decide +kernel)) rfl
theorem cd_X5_addMiner : Cond.code yX5_addMiner cX5_addMiner 4 (some .int) ∈ tl_GW := tl_inGW (List.mem_of_getElem? (i := 716) (by decide +kernel)) rfl
theorem ml_X5_189 : Cond.methodLink RX5 189 yX5_sendMiner ∈ tl_GW := tl_inGW (List.mem_of_getElem? (i := 717) (by decide +kernel)) rfl
theorem im_X5_sendMiner : Cond.instanceMethod yX5_sendMiner ∈ tl_GW := tl_inGW (List.mem_of_getElem? (i := 719) (by decide +kernel)) rfl
theorem cd_X5_sendMiner : Cond.code yX5_sendMiner cX5_sendMiner 4 (some .int) ∈ tl_GW := tl_inGW (List.mem_of_getElem? (i := 720) (by decide +kernel)) rfl
theorem ml_X5_192 : Cond.methodLink RX5 192 yX5_addLamp ∈ tl_GW := tl_inGW (List.mem_of_getElem? (i := 721) (by decide +kernel)) rfl
theorem im_X5_addLamp : Cond.instanceMethod yX5_addLamp ∈ tl_GW := tl_inGW (List.mem_of_getElem? (i := 723) (by decide +kernel)) rfl
theorem cd_X5_addLamp : Cond.code yX5_addLamp cX5_addLamp 6 (some .int) ∈ tl_GW := tl_inGW (List.mem_of_getElem? (i := 724) (by decide +kernel)) rfl
theorem ml_X5_196 : Cond.methodLink RX5 196 yX5_bringOil ∈ tl_GW := tl_inGW (List.mem_of_getElem? (i := 725) (by decide +kernel)) rfl
theorem im_X5_bringOil : Cond.instanceMethod yX5_bringOil ∈ tl_GW := tl_inGW (List.mem_of_getElem? (i := 727) (by decide +kernel)) rfl
theorem cd_X5_bringOil : Cond.code yX5_bringOil cX5_bringOil 2 (some .int) ∈ tl_GW := tl_inGW (List.mem_of_getElem? (i := 728) (by decide +kernel)) rfl
theorem ml_X5_203 : Cond.methodLink RX5 203 yX3_addFill ∈ tl_GW := tl_inGW (List.mem_of_getElem? (i := 729) (by decide +kernel)) rfl
theorem im_X3_addFill : Cond.instanceMethod yX3_addFill ∈ tl_GW := tl_inGW (List.mem_of_getElem? (i := 730) (by decide +kernel)) rfl
theorem se_X3_addFill : Cond.selects RX3 yX3_addFill yX3_addFill ∈ tl_GW := tl_inGW (List.mem_of_getElem? (i := 731) (by decide +kernel)) rfl
theorem cd_X3_addFill : Cond.code yX3_addFill cX3_addFill 3 (some .int) ∈ tl_GW := tl_inGW (List.mem_of_getElem? (i := 732) (by decide +kernel)) rfl
theorem ml_X5_209 : Cond.methodLink RX5 209 yX5_changeSetting ∈ tl_GW := tl_inGW (List.mem_of_getElem? (i := 733) (by decide +kernel)) rfl
theorem im_X5_changeSetting : Cond.instanceMethod yX5_changeSetting ∈ tl_GW := tl_inGW (List.mem_of_getElem? (i := 735) (by decide +kernel)) rfl
theorem cd_X5_changeSetting : Cond.code yX5_changeSetting cX5_changeSetting 4 (some .int) ∈ tl_GW := tl_inGW (List.mem_of_getElem? (i := 736) (by decide +kernel)) rfl
theorem ml_X5_212 : Cond.methodLink RX5 212 yX5_letHoursGo ∈ tl_GW := tl_inGW (List.mem_of_getElem? (i := 737) (by decide +kernel)) rfl
theorem ml_L_131 : Cond.methodLink RL 131 yL_about ∈ tl_GW := tl_inGW (List.mem_of_getElem? (i := 738) (by decide +kernel)) rfl
theorem sm_L_about : Cond.static yL_about ∈ tl_GW := tl_inGW (List.mem_of_getElem? (i := 739) (by decide +kernel)) rfl
theorem ml_L_21 : Cond.methodLink RL 21 yX9_about ∈ tl_GW := tl_inGW (List.mem_of_getElem? (i := 741) (by decide +kernel)) rfl
theorem im_X9_about : Cond.instanceMethod yX9_about ∈ tl_GW := tl_inGW (List.mem_of_getElem? (i := 742) (by decide +kernel)) rfl
theorem se_X9_about : Cond.selects RX9 yX9_about yX9_about ∈ tl_GW := tl_inGW (List.mem_of_getElem? (i := 743) (by decide +kernel)) rfl
theorem cd_X9_about : Cond.code yX9_about cX9_about 2 (some .int) ∈ tl_GW := tl_inGW (List.mem_of_getElem? (i := 744) (by decide +kernel)) rfl
theorem ml_X9_108 : Cond.methodLink RX9 108 yX5_oilInLamps ∈ tl_GW := tl_inGW (List.mem_of_getElem? (i := 745) (by decide +kernel)) rfl
theorem im_X5_oilInLamps : Cond.instanceMethod yX5_oilInLamps ∈ tl_GW := tl_inGW (List.mem_of_getElem? (i := 746) (by decide +kernel)) rfl
theorem se_X5_oilInLamps : Cond.selects RX5 yX5_oilInLamps yX5_oilInLamps ∈ tl_GW := tl_inGW (List.mem_of_getElem? (i := 747) (by decide +kernel)) rfl
theorem cd_X5_oilInLamps : Cond.code yX5_oilInLamps cX5_oilInLamps 3 (some .int) ∈ tl_GW := tl_inGW (List.mem_of_getElem? (i := 748) (by decide +kernel)) rfl
theorem ml_L_134 : Cond.methodLink RL 134 yL_galleryOf ∈ tl_GW := tl_inGW (List.mem_of_getElem? (i := 749) (by decide +kernel)) rfl
theorem sm_L_galleryOf : Cond.static yL_galleryOf ∈ tl_GW := tl_inGW (List.mem_of_getElem? (i := 750) (by decide +kernel)) rfl
theorem kk_L_28 : Cond.classLink RL 28 "java/lang/IndexOutOfBoundsException" ∈ tl_GW := tl_inGW (List.mem_of_getElem? (i := 752) (by decide +kernel)) rfl
theorem ml_L_24 : Cond.methodLink RL 24 yX9_galleryOf ∈ tl_GW := tl_inGW (List.mem_of_getElem? (i := 753) (by decide +kernel)) rfl
theorem im_X9_galleryOf : Cond.instanceMethod yX9_galleryOf ∈ tl_GW := tl_inGW (List.mem_of_getElem? (i := 754) (by decide +kernel)) rfl
theorem se_X9_galleryOf : Cond.selects RX9 yX9_galleryOf yX9_galleryOf ∈ tl_GW := tl_inGW (List.mem_of_getElem? (i := 755) (by decide +kernel)) rfl
theorem cd_X9_galleryOf : Cond.code yX9_galleryOf cX9_galleryOf 4 (some .int) ∈ tl_GW := tl_inGW (List.mem_of_getElem? (i := 756) (by decide +kernel)) rfl
theorem ml_X9_138 : Cond.methodLink RX9 138 yX5_hasGallery ∈ tl_GW := tl_inGW (List.mem_of_getElem? (i := 757) (by decide +kernel)) rfl
theorem ml_X9_154 : Cond.methodLink RX9 154 yX9_strokesFor ∈ tl_GW := tl_inGW (List.mem_of_getElem? (i := 758) (by decide +kernel)) rfl
theorem ml_X9_158 : Cond.methodLink RX9 158 yX5_isLit ∈ tl_GW := tl_inGW (List.mem_of_getElem? (i := 759) (by decide +kernel)) rfl
theorem ml_X9_162 : Cond.methodLink RX9 162 yX5_minersIn ∈ tl_GW := tl_inGW (List.mem_of_getElem? (i := 760) (by decide +kernel)) rfl
theorem ml_X9_166 : Cond.methodLink RX9 166 yX5_lampsIn ∈ tl_GW := tl_inGW (List.mem_of_getElem? (i := 761) (by decide +kernel)) rfl
theorem im_X5_lampsIn : Cond.instanceMethod yX5_lampsIn ∈ tl_GW := tl_inGW (List.mem_of_getElem? (i := 762) (by decide +kernel)) rfl
theorem se_X5_lampsIn : Cond.selects RX5 yX5_lampsIn yX5_lampsIn ∈ tl_GW := tl_inGW (List.mem_of_getElem? (i := 763) (by decide +kernel)) rfl
theorem cd_X5_lampsIn : Cond.code yX5_lampsIn cX5_lampsIn 4 (some .int) ∈ tl_GW := tl_inGW (List.mem_of_getElem? (i := 764) (by decide +kernel)) rfl
theorem ml_L_138 : Cond.methodLink RL 138 yL_minerOf ∈ tl_GW := tl_inGW (List.mem_of_getElem? (i := 765) (by decide +kernel)) rfl
theorem sm_L_minerOf : Cond.static yL_minerOf ∈ tl_GW := tl_inGW (List.mem_of_getElem? (i := 766) (by decide +kernel)) rfl
theorem ml_L_30 : Cond.methodLink RL 30 yX9_minerOf ∈ tl_GW := tl_inGW (List.mem_of_getElem? (i := 768) (by decide +kernel)) rfl
theorem im_X9_minerOf : Cond.instanceMethod yX9_minerOf ∈ tl_GW := tl_inGW (List.mem_of_getElem? (i := 769) (by decide +kernel)) rfl
theorem se_X9_minerOf : Cond.selects RX9 yX9_minerOf yX9_minerOf ∈ tl_GW := tl_inGW (List.mem_of_getElem? (i := 770) (by decide +kernel)) rfl
theorem cd_X9_minerOf : Cond.code yX9_minerOf cX9_minerOf 4 (some .int) ∈ tl_GW := tl_inGW (List.mem_of_getElem? (i := 771) (by decide +kernel)) rfl
theorem ml_X9_169 : Cond.methodLink RX9 169 yX5_hasMiner ∈ tl_GW := tl_inGW (List.mem_of_getElem? (i := 772) (by decide +kernel)) rfl
theorem ml_L_141 : Cond.methodLink RL 141 yL_lampOf ∈ tl_GW := tl_inGW (List.mem_of_getElem? (i := 773) (by decide +kernel)) rfl
theorem sm_L_lampOf : Cond.static yL_lampOf ∈ tl_GW := tl_inGW (List.mem_of_getElem? (i := 774) (by decide +kernel)) rfl
theorem ml_L_33 : Cond.methodLink RL 33 yX9_lampOf ∈ tl_GW := tl_inGW (List.mem_of_getElem? (i := 776) (by decide +kernel)) rfl
theorem im_X9_lampOf : Cond.instanceMethod yX9_lampOf ∈ tl_GW := tl_inGW (List.mem_of_getElem? (i := 777) (by decide +kernel)) rfl
theorem se_X9_lampOf : Cond.selects RX9 yX9_lampOf yX9_lampOf ∈ tl_GW := tl_inGW (List.mem_of_getElem? (i := 778) (by decide +kernel)) rfl
theorem cd_X9_lampOf : Cond.code yX9_lampOf cX9_lampOf 4 (some .int) ∈ tl_GW := tl_inGW (List.mem_of_getElem? (i := 779) (by decide +kernel)) rfl
theorem ml_X9_186 : Cond.methodLink RX9 186 yX5_hasLamp ∈ tl_GW := tl_inGW (List.mem_of_getElem? (i := 780) (by decide +kernel)) rfl
theorem ml_L_144 : Cond.methodLink RL 144 yL_lad ∈ tl_GW := tl_inGW (List.mem_of_getElem? (i := 781) (by decide +kernel)) rfl
theorem sm_L_lad : Cond.static yL_lad ∈ tl_GW := tl_inGW (List.mem_of_getElem? (i := 782) (by decide +kernel)) rfl
theorem ml_L_36 : Cond.methodLink RL 36 yX9_lad ∈ tl_GW := tl_inGW (List.mem_of_getElem? (i := 784) (by decide +kernel)) rfl
theorem im_X9_lad : Cond.instanceMethod yX9_lad ∈ tl_GW := tl_inGW (List.mem_of_getElem? (i := 785) (by decide +kernel)) rfl
theorem se_X9_lad : Cond.selects RX9 yX9_lad yX9_lad ∈ tl_GW := tl_inGW (List.mem_of_getElem? (i := 786) (by decide +kernel)) rfl
theorem cd_X9_lad : Cond.code yX9_lad cX9_lad 2 (some .int) ∈ tl_GW := tl_inGW (List.mem_of_getElem? (i := 787) (by decide +kernel)) rfl
theorem ml_X9_208 : Cond.methodLink RX9 208 yX5_ladWorks ∈ tl_GW := tl_inGW (List.mem_of_getElem? (i := 788) (by decide +kernel)) rfl
theorem ml_L_147 : Cond.methodLink RL 147 yL_orderOf ∈ tl_GW := tl_inGW (List.mem_of_getElem? (i := 789) (by decide +kernel)) rfl
theorem sm_L_orderOf : Cond.static yL_orderOf ∈ tl_GW := tl_inGW (List.mem_of_getElem? (i := 790) (by decide +kernel)) rfl
theorem ml_L_39 : Cond.methodLink RL 39 yX9_orderOf ∈ tl_GW := tl_inGW (List.mem_of_getElem? (i := 792) (by decide +kernel)) rfl
theorem im_X9_orderOf : Cond.instanceMethod yX9_orderOf ∈ tl_GW := tl_inGW (List.mem_of_getElem? (i := 793) (by decide +kernel)) rfl
theorem se_X9_orderOf : Cond.selects RX9 yX9_orderOf yX9_orderOf ∈ tl_GW := tl_inGW (List.mem_of_getElem? (i := 794) (by decide +kernel)) rfl
theorem cd_X9_orderOf : Cond.code yX9_orderOf cX9_orderOf 5 (some .int) ∈ tl_GW := tl_inGW (List.mem_of_getElem? (i := 795) (by decide +kernel)) rfl
theorem ml_X9_211 : Cond.methodLink RX9 211 yX3_hasOrder ∈ tl_GW := tl_inGW (List.mem_of_getElem? (i := 796) (by decide +kernel)) rfl
theorem ml_L_150 : Cond.methodLink RL 150 yL_lit ∈ tl_GW := tl_inGW (List.mem_of_getElem? (i := 797) (by decide +kernel)) rfl
theorem sm_L_lit : Cond.static yL_lit ∈ tl_GW := tl_inGW (List.mem_of_getElem? (i := 798) (by decide +kernel)) rfl
theorem ml_L_42 : Cond.methodLink RL 42 yX9_lit ∈ tl_GW := tl_inGW (List.mem_of_getElem? (i := 800) (by decide +kernel)) rfl
theorem im_X9_lit : Cond.instanceMethod yX9_lit ∈ tl_GW := tl_inGW (List.mem_of_getElem? (i := 801) (by decide +kernel)) rfl
theorem se_X9_lit : Cond.selects RX9 yX9_lit yX9_lit ∈ tl_GW := tl_inGW (List.mem_of_getElem? (i := 802) (by decide +kernel)) rfl
theorem cd_X9_lit : Cond.code yX9_lit cX9_lit 3 (some .int) ∈ tl_GW := tl_inGW (List.mem_of_getElem? (i := 803) (by decide +kernel)) rfl
theorem ml_X9_229 : Cond.methodLink RX9 229 yX5_litCellByCell ∈ tl_GW := tl_inGW (List.mem_of_getElem? (i := 804) (by decide +kernel)) rfl
theorem im_X5_litCellByCell : Cond.instanceMethod yX5_litCellByCell ∈ tl_GW := tl_inGW (List.mem_of_getElem? (i := 805) (by decide +kernel)) rfl
theorem se_X5_litCellByCell : Cond.selects RX5 yX5_litCellByCell yX5_litCellByCell ∈ tl_GW := tl_inGW (List.mem_of_getElem? (i := 806) (by decide +kernel)) rfl
theorem cd_X5_litCellByCell : Cond.code yX5_litCellByCell cX5_litCellByCell 5 (some .int) ∈ tl_GW := tl_inGW (List.mem_of_getElem? (i := 807) (by decide +kernel)) rfl
theorem ml_X9_232 : Cond.methodLink RX9 232 yX5_litBySpans ∈ tl_GW := tl_inGW (List.mem_of_getElem? (i := 808) (by decide +kernel)) rfl
theorem im_X5_litBySpans : Cond.instanceMethod yX5_litBySpans ∈ tl_GW := tl_inGW (List.mem_of_getElem? (i := 809) (by decide +kernel)) rfl
theorem se_X5_litBySpans : Cond.selects RX5 yX5_litBySpans yX5_litBySpans ∈ tl_GW := tl_inGW (List.mem_of_getElem? (i := 810) (by decide +kernel)) rfl
theorem cd_X5_litBySpans : Cond.code yX5_litBySpans cX5_litBySpans 11 (some .int) ∈ tl_GW := tl_inGW (List.mem_of_getElem? (i := 811) (by decide +kernel)) rfl
theorem ml_X5_116 : Cond.methodLink RX5 116 yJ9_max_7cf53 ∈ tl_GW := tl_inGW (List.mem_of_getElem? (i := 812) (by decide +kernel)) rfl
theorem sm_J9_max_7cf53 : Cond.static yJ9_max_7cf53 ∈ tl_GW := tl_inGW (List.mem_of_getElem? (i := 813) (by decide +kernel)) rfl
theorem cd_J9_max_7cf53 : Cond.code yJ9_max_7cf53 cJ9_max_7cf53 2 (some .int) ∈ tl_GW := tl_inGW (List.mem_of_getElem? (i := 814) (by decide +kernel)) rfl
theorem ml_L_153 : Cond.methodLink RL 153 yL_gallery ∈ tl_GW := tl_inGW (List.mem_of_getElem? (i := 815) (by decide +kernel)) rfl
theorem sm_L_gallery : Cond.static yL_gallery ∈ tl_GW := tl_inGW (List.mem_of_getElem? (i := 816) (by decide +kernel)) rfl
theorem ml_L_45 : Cond.methodLink RL 45 yX9_gallery ∈ tl_GW := tl_inGW (List.mem_of_getElem? (i := 818) (by decide +kernel)) rfl
theorem im_X9_gallery : Cond.instanceMethod yX9_gallery ∈ tl_GW := tl_inGW (List.mem_of_getElem? (i := 819) (by decide +kernel)) rfl
theorem se_X9_gallery : Cond.selects RX9 yX9_gallery yX9_gallery ∈ tl_GW := tl_inGW (List.mem_of_getElem? (i := 820) (by decide +kernel)) rfl
theorem cd_X9_gallery : Cond.code yX9_gallery cX9_gallery 2 (some .int) ∈ tl_GW := tl_inGW (List.mem_of_getElem? (i := 821) (by decide +kernel)) rfl
theorem ml_X9_235 : Cond.methodLink RX9 235 yX9_act ∈ tl_GW := tl_inGW (List.mem_of_getElem? (i := 822) (by decide +kernel)) rfl
theorem im_X9_act : Cond.instanceMethod yX9_act ∈ tl_GW := tl_inGW (List.mem_of_getElem? (i := 824) (by decide +kernel)) rfl
theorem cd_X9_act : Cond.code yX9_act cX9_act 6 (some .int) ∈ tl_GW := tl_inGW (List.mem_of_getElem? (i := 825) (by decide +kernel)) rfl
theorem ml_X9_292 : Cond.methodLink RX9 292 yX0_become ∈ tl_GW := tl_inGW (List.mem_of_getElem? (i := 826) (by decide +kernel)) rfl
theorem ml_X9_296 : Cond.methodLink RX9 296 yX5_refusal ∈ tl_GW := tl_inGW (List.mem_of_getElem? (i := 827) (by decide +kernel)) rfl
theorem ml_X9_302 : Cond.methodLink RX9 302 yX2_remember ∈ tl_GW := tl_inGW (List.mem_of_getElem? (i := 828) (by decide +kernel)) rfl
theorem im_X2_remember : Cond.instanceMethod yX2_remember ∈ tl_GW := tl_inGW (List.mem_of_getElem? (i := 829) (by decide +kernel)) rfl
theorem se_X2_remember : Cond.selects RX2 yX2_remember yX2_remember ∈ tl_GW := tl_inGW (List.mem_of_getElem? (i := 830) (by decide +kernel)) rfl
theorem cd_X2_remember : Cond.code yX2_remember cX2_remember 2 none ∈ tl_GW := tl_inGW (List.mem_of_getElem? (i := 831) (by decide +kernel)) rfl
theorem ml_X2_25 : Cond.methodLink RX2 25 yX5_copyFrom ∈ tl_GW := tl_inGW (List.mem_of_getElem? (i := 832) (by decide +kernel)) rfl
theorem ml_X9_305 : Cond.methodLink RX9 305 yX5_perform ∈ tl_GW := tl_inGW (List.mem_of_getElem? (i := 833) (by decide +kernel)) rfl
theorem ml_L_156 : Cond.methodLink RL 156 yL_miner ∈ tl_GW := tl_inGW (List.mem_of_getElem? (i := 834) (by decide +kernel)) rfl
theorem sm_L_miner : Cond.static yL_miner ∈ tl_GW := tl_inGW (List.mem_of_getElem? (i := 835) (by decide +kernel)) rfl
theorem ml_L_48 : Cond.methodLink RL 48 yX9_miner ∈ tl_GW := tl_inGW (List.mem_of_getElem? (i := 837) (by decide +kernel)) rfl
theorem im_X9_miner : Cond.instanceMethod yX9_miner ∈ tl_GW := tl_inGW (List.mem_of_getElem? (i := 838) (by decide +kernel)) rfl
theorem se_X9_miner : Cond.selects RX9 yX9_miner yX9_miner ∈ tl_GW := tl_inGW (List.mem_of_getElem? (i := 839) (by decide +kernel)) rfl
theorem cd_X9_miner : Cond.code yX9_miner cX9_miner 3 (some .int) ∈ tl_GW := tl_inGW (List.mem_of_getElem? (i := 840) (by decide +kernel)) rfl
theorem ml_L_159 : Cond.methodLink RL 159 yL_send ∈ tl_GW := tl_inGW (List.mem_of_getElem? (i := 841) (by decide +kernel)) rfl
theorem sm_L_send : Cond.static yL_send ∈ tl_GW := tl_inGW (List.mem_of_getElem? (i := 842) (by decide +kernel)) rfl
theorem ml_L_51 : Cond.methodLink RL 51 yX9_send ∈ tl_GW := tl_inGW (List.mem_of_getElem? (i := 844) (by decide +kernel)) rfl
theorem im_X9_send : Cond.instanceMethod yX9_send ∈ tl_GW := tl_inGW (List.mem_of_getElem? (i := 845) (by decide +kernel)) rfl
theorem se_X9_send : Cond.selects RX9 yX9_send yX9_send ∈ tl_GW := tl_inGW (List.mem_of_getElem? (i := 846) (by decide +kernel)) rfl
theorem cd_X9_send : Cond.code yX9_send cX9_send 3 (some .int) ∈ tl_GW := tl_inGW (List.mem_of_getElem? (i := 847) (by decide +kernel)) rfl
theorem ml_L_162 : Cond.methodLink RL 162 yL_lamp ∈ tl_GW := tl_inGW (List.mem_of_getElem? (i := 848) (by decide +kernel)) rfl
theorem sm_L_lamp : Cond.static yL_lamp ∈ tl_GW := tl_inGW (List.mem_of_getElem? (i := 849) (by decide +kernel)) rfl
theorem ml_L_54 : Cond.methodLink RL 54 yX9_lamp ∈ tl_GW := tl_inGW (List.mem_of_getElem? (i := 851) (by decide +kernel)) rfl
theorem im_X9_lamp : Cond.instanceMethod yX9_lamp ∈ tl_GW := tl_inGW (List.mem_of_getElem? (i := 852) (by decide +kernel)) rfl
theorem se_X9_lamp : Cond.selects RX9 yX9_lamp yX9_lamp ∈ tl_GW := tl_inGW (List.mem_of_getElem? (i := 853) (by decide +kernel)) rfl
theorem cd_X9_lamp : Cond.code yX9_lamp cX9_lamp 5 (some .int) ∈ tl_GW := tl_inGW (List.mem_of_getElem? (i := 854) (by decide +kernel)) rfl
theorem ml_L_166 : Cond.methodLink RL 166 yL_store ∈ tl_GW := tl_inGW (List.mem_of_getElem? (i := 855) (by decide +kernel)) rfl
theorem sm_L_store : Cond.static yL_store ∈ tl_GW := tl_inGW (List.mem_of_getElem? (i := 856) (by decide +kernel)) rfl
theorem ml_L_58 : Cond.methodLink RL 58 yX9_store ∈ tl_GW := tl_inGW (List.mem_of_getElem? (i := 858) (by decide +kernel)) rfl
theorem im_X9_store : Cond.instanceMethod yX9_store ∈ tl_GW := tl_inGW (List.mem_of_getElem? (i := 859) (by decide +kernel)) rfl
theorem se_X9_store : Cond.selects RX9 yX9_store yX9_store ∈ tl_GW := tl_inGW (List.mem_of_getElem? (i := 860) (by decide +kernel)) rfl
theorem cd_X9_store : Cond.code yX9_store cX9_store 2 (some .int) ∈ tl_GW := tl_inGW (List.mem_of_getElem? (i := 861) (by decide +kernel)) rfl
theorem ml_L_169 : Cond.methodLink RL 169 yL_hang ∈ tl_GW := tl_inGW (List.mem_of_getElem? (i := 862) (by decide +kernel)) rfl
theorem sm_L_hang : Cond.static yL_hang ∈ tl_GW := tl_inGW (List.mem_of_getElem? (i := 863) (by decide +kernel)) rfl
theorem ml_L_61 : Cond.methodLink RL 61 yX9_hang ∈ tl_GW := tl_inGW (List.mem_of_getElem? (i := 865) (by decide +kernel)) rfl
theorem im_X9_hang : Cond.instanceMethod yX9_hang ∈ tl_GW := tl_inGW (List.mem_of_getElem? (i := 866) (by decide +kernel)) rfl
theorem se_X9_hang : Cond.selects RX9 yX9_hang yX9_hang ∈ tl_GW := tl_inGW (List.mem_of_getElem? (i := 867) (by decide +kernel)) rfl
theorem cd_X9_hang : Cond.code yX9_hang cX9_hang 4 (some .int) ∈ tl_GW := tl_inGW (List.mem_of_getElem? (i := 868) (by decide +kernel)) rfl
theorem ml_L_173 : Cond.methodLink RL 173 yL_fill ∈ tl_GW := tl_inGW (List.mem_of_getElem? (i := 869) (by decide +kernel)) rfl
theorem sm_L_fill : Cond.static yL_fill ∈ tl_GW := tl_inGW (List.mem_of_getElem? (i := 870) (by decide +kernel)) rfl
theorem ml_L_65 : Cond.methodLink RL 65 yX9_fill ∈ tl_GW := tl_inGW (List.mem_of_getElem? (i := 872) (by decide +kernel)) rfl
theorem im_X9_fill : Cond.instanceMethod yX9_fill ∈ tl_GW := tl_inGW (List.mem_of_getElem? (i := 873) (by decide +kernel)) rfl
theorem se_X9_fill : Cond.selects RX9 yX9_fill yX9_fill ∈ tl_GW := tl_inGW (List.mem_of_getElem? (i := 874) (by decide +kernel)) rfl
theorem cd_X9_fill : Cond.code yX9_fill cX9_fill 3 (some .int) ∈ tl_GW := tl_inGW (List.mem_of_getElem? (i := 875) (by decide +kernel)) rfl
theorem ml_L_176 : Cond.methodLink RL 176 yL_drop ∈ tl_GW := tl_inGW (List.mem_of_getElem? (i := 876) (by decide +kernel)) rfl
theorem sm_L_drop : Cond.static yL_drop ∈ tl_GW := tl_inGW (List.mem_of_getElem? (i := 877) (by decide +kernel)) rfl
theorem ml_L_68 : Cond.methodLink RL 68 yX9_drop ∈ tl_GW := tl_inGW (List.mem_of_getElem? (i := 879) (by decide +kernel)) rfl
theorem im_X9_drop : Cond.instanceMethod yX9_drop ∈ tl_GW := tl_inGW (List.mem_of_getElem? (i := 880) (by decide +kernel)) rfl
theorem se_X9_drop : Cond.selects RX9 yX9_drop yX9_drop ∈ tl_GW := tl_inGW (List.mem_of_getElem? (i := 881) (by decide +kernel)) rfl
theorem cd_X9_drop : Cond.code yX9_drop cX9_drop 2 (some .int) ∈ tl_GW := tl_inGW (List.mem_of_getElem? (i := 882) (by decide +kernel)) rfl
theorem ml_L_179 : Cond.methodLink RL 179 yL_set ∈ tl_GW := tl_inGW (List.mem_of_getElem? (i := 883) (by decide +kernel)) rfl
theorem sm_L_set : Cond.static yL_set ∈ tl_GW := tl_inGW (List.mem_of_getElem? (i := 884) (by decide +kernel)) rfl
theorem ml_L_71 : Cond.methodLink RL 71 yX9_set ∈ tl_GW := tl_inGW (List.mem_of_getElem? (i := 886) (by decide +kernel)) rfl
theorem im_X9_set : Cond.instanceMethod yX9_set ∈ tl_GW := tl_inGW (List.mem_of_getElem? (i := 887) (by decide +kernel)) rfl
theorem se_X9_set : Cond.selects RX9 yX9_set yX9_set ∈ tl_GW := tl_inGW (List.mem_of_getElem? (i := 888) (by decide +kernel)) rfl
theorem cd_X9_set : Cond.code yX9_set cX9_set 3 (some .int) ∈ tl_GW := tl_inGW (List.mem_of_getElem? (i := 889) (by decide +kernel)) rfl
theorem ml_L_182 : Cond.methodLink RL 182 yL_hours ∈ tl_GW := tl_inGW (List.mem_of_getElem? (i := 890) (by decide +kernel)) rfl
theorem sm_L_hours : Cond.static yL_hours ∈ tl_GW := tl_inGW (List.mem_of_getElem? (i := 891) (by decide +kernel)) rfl
theorem ml_L_74 : Cond.methodLink RL 74 yX9_hours ∈ tl_GW := tl_inGW (List.mem_of_getElem? (i := 893) (by decide +kernel)) rfl
theorem im_X9_hours : Cond.instanceMethod yX9_hours ∈ tl_GW := tl_inGW (List.mem_of_getElem? (i := 894) (by decide +kernel)) rfl
theorem se_X9_hours : Cond.selects RX9 yX9_hours yX9_hours ∈ tl_GW := tl_inGW (List.mem_of_getElem? (i := 895) (by decide +kernel)) rfl
theorem cd_X9_hours : Cond.code yX9_hours cX9_hours 2 (some .int) ∈ tl_GW := tl_inGW (List.mem_of_getElem? (i := 896) (by decide +kernel)) rfl
theorem ml_L_185 : Cond.methodLink RL 185 yL_undo ∈ tl_GW := tl_inGW (List.mem_of_getElem? (i := 897) (by decide +kernel)) rfl
theorem sm_L_undo : Cond.static yL_undo ∈ tl_GW := tl_inGW (List.mem_of_getElem? (i := 898) (by decide +kernel)) rfl
theorem ml_L_77 : Cond.methodLink RL 77 yX9_undo ∈ tl_GW := tl_inGW (List.mem_of_getElem? (i := 900) (by decide +kernel)) rfl
theorem im_X9_undo : Cond.instanceMethod yX9_undo ∈ tl_GW := tl_inGW (List.mem_of_getElem? (i := 901) (by decide +kernel)) rfl
theorem se_X9_undo : Cond.selects RX9 yX9_undo yX9_undo ∈ tl_GW := tl_inGW (List.mem_of_getElem? (i := 902) (by decide +kernel)) rfl
theorem cd_X9_undo : Cond.code yX9_undo cX9_undo 1 (some .int) ∈ tl_GW := tl_inGW (List.mem_of_getElem? (i := 903) (by decide +kernel)) rfl
theorem ml_X9_242 : Cond.methodLink RX9 242 yX2_takeBack ∈ tl_GW := tl_inGW (List.mem_of_getElem? (i := 904) (by decide +kernel)) rfl
theorem im_X2_takeBack : Cond.instanceMethod yX2_takeBack ∈ tl_GW := tl_inGW (List.mem_of_getElem? (i := 905) (by decide +kernel)) rfl
theorem se_X2_takeBack : Cond.selects RX2 yX2_takeBack yX2_takeBack ∈ tl_GW := tl_inGW (List.mem_of_getElem? (i := 906) (by decide +kernel)) rfl
theorem cd_X2_takeBack : Cond.code yX2_takeBack cX2_takeBack 2 none ∈ tl_GW := tl_inGW (List.mem_of_getElem? (i := 907) (by decide +kernel)) rfl
theorem ml_L_188 : Cond.methodLink RL 188 yL_darkIn ∈ tl_GW := tl_inGW (List.mem_of_getElem? (i := 908) (by decide +kernel)) rfl
theorem sm_L_darkIn : Cond.static yL_darkIn ∈ tl_GW := tl_inGW (List.mem_of_getElem? (i := 909) (by decide +kernel)) rfl
theorem ml_L_80 : Cond.methodLink RL 80 yX9_darkIn ∈ tl_GW := tl_inGW (List.mem_of_getElem? (i := 911) (by decide +kernel)) rfl
theorem im_X9_darkIn : Cond.instanceMethod yX9_darkIn ∈ tl_GW := tl_inGW (List.mem_of_getElem? (i := 912) (by decide +kernel)) rfl
theorem se_X9_darkIn : Cond.selects RX9 yX9_darkIn yX9_darkIn ∈ tl_GW := tl_inGW (List.mem_of_getElem? (i := 913) (by decide +kernel)) rfl
theorem cd_X9_darkIn : Cond.code yX9_darkIn cX9_darkIn 3 (some .int) ∈ tl_GW := tl_inGW (List.mem_of_getElem? (i := 914) (by decide +kernel)) rfl
theorem ml_L_191 : Cond.methodLink RL 191 yL_depthIn ∈ tl_GW := tl_inGW (List.mem_of_getElem? (i := 915) (by decide +kernel)) rfl
theorem sm_L_depthIn : Cond.static yL_depthIn ∈ tl_GW := tl_inGW (List.mem_of_getElem? (i := 916) (by decide +kernel)) rfl
theorem ml_L_83 : Cond.methodLink RL 83 yX9_depthIn ∈ tl_GW := tl_inGW (List.mem_of_getElem? (i := 918) (by decide +kernel)) rfl
theorem im_X9_depthIn : Cond.instanceMethod yX9_depthIn ∈ tl_GW := tl_inGW (List.mem_of_getElem? (i := 919) (by decide +kernel)) rfl
theorem se_X9_depthIn : Cond.selects RX9 yX9_depthIn yX9_depthIn ∈ tl_GW := tl_inGW (List.mem_of_getElem? (i := 920) (by decide +kernel)) rfl
theorem cd_X9_depthIn : Cond.code yX9_depthIn cX9_depthIn 3 (some .int) ∈ tl_GW := tl_inGW (List.mem_of_getElem? (i := 921) (by decide +kernel)) rfl
theorem ml_L_198 : Cond.methodLink RL 198 yL_bestCell ∈ tl_GW := tl_inGW (List.mem_of_getElem? (i := 922) (by decide +kernel)) rfl
theorem sm_L_bestCell : Cond.static yL_bestCell ∈ tl_GW := tl_inGW (List.mem_of_getElem? (i := 923) (by decide +kernel)) rfl
theorem ml_L_86 : Cond.methodLink RL 86 yX9_bestCell ∈ tl_GW := tl_inGW (List.mem_of_getElem? (i := 925) (by decide +kernel)) rfl
theorem im_X9_bestCell : Cond.instanceMethod yX9_bestCell ∈ tl_GW := tl_inGW (List.mem_of_getElem? (i := 926) (by decide +kernel)) rfl
theorem se_X9_bestCell : Cond.selects RX9 yX9_bestCell yX9_bestCell ∈ tl_GW := tl_inGW (List.mem_of_getElem? (i := 927) (by decide +kernel)) rfl
theorem cd_X9_bestCell : Cond.code yX9_bestCell cX9_bestCell 8 (some .int) ∈ tl_GW := tl_inGW (List.mem_of_getElem? (i := 928) (by decide +kernel)) rfl
theorem ml_X9_251 : Cond.methodLink RX9 251 yX3_hasRoomForOrder ∈ tl_GW := tl_inGW (List.mem_of_getElem? (i := 929) (by decide +kernel)) rfl
theorem ml_X9_254 : Cond.methodLink RX9 254 yX3_addHang ∈ tl_GW := tl_inGW (List.mem_of_getElem? (i := 930) (by decide +kernel)) rfl
theorem ml_L_201 : Cond.methodLink RL 201 yL_steps ∈ tl_GW := tl_inGW (List.mem_of_getElem? (i := 931) (by decide +kernel)) rfl
theorem sm_L_steps : Cond.static yL_steps ∈ tl_GW := tl_inGW (List.mem_of_getElem? (i := 932) (by decide +kernel)) rfl
theorem ml_L_89 : Cond.methodLink RL 89 yX9_steps ∈ tl_GW := tl_inGW (List.mem_of_getElem? (i := 934) (by decide +kernel)) rfl
theorem im_X9_steps : Cond.instanceMethod yX9_steps ∈ tl_GW := tl_inGW (List.mem_of_getElem? (i := 935) (by decide +kernel)) rfl
theorem se_X9_steps : Cond.selects RX9 yX9_steps yX9_steps ∈ tl_GW := tl_inGW (List.mem_of_getElem? (i := 936) (by decide +kernel)) rfl
theorem cd_X9_steps : Cond.code yX9_steps cX9_steps 5 (some .int) ∈ tl_GW := tl_inGW (List.mem_of_getElem? (i := 937) (by decide +kernel)) rfl
theorem ml_X9_258 : Cond.methodLink RX9 258 yX5_hasCell ∈ tl_GW := tl_inGW (List.mem_of_getElem? (i := 938) (by decide +kernel)) rfl
theorem ml_X9_261 : Cond.methodLink RX9 261 yJ9_abs_0f7a4 ∈ tl_GW := tl_inGW (List.mem_of_getElem? (i := 939) (by decide +kernel)) rfl
theorem sm_J9_abs_0f7a4 : Cond.static yJ9_abs_0f7a4 ∈ tl_GW := tl_inGW (List.mem_of_getElem? (i := 940) (by decide +kernel)) rfl
theorem cd_J9_abs_0f7a4 : Cond.code yJ9_abs_0f7a4 cJ9_abs_0f7a4 1 (some .int) ∈ tl_GW := tl_inGW (List.mem_of_getElem? (i := 941) (by decide +kernel)) rfl
theorem ml_L_206 : Cond.methodLink RL 206 yL_runScript ∈ tl_GW := tl_inGW (List.mem_of_getElem? (i := 942) (by decide +kernel)) rfl
theorem sm_L_runScript : Cond.static yL_runScript ∈ tl_GW := tl_inGW (List.mem_of_getElem? (i := 943) (by decide +kernel)) rfl
theorem ml_L_92 : Cond.methodLink RL 92 yX9_runScript ∈ tl_GW := tl_inGW (List.mem_of_getElem? (i := 945) (by decide +kernel)) rfl
theorem im_X9_runScript : Cond.instanceMethod yX9_runScript ∈ tl_GW := tl_inGW (List.mem_of_getElem? (i := 946) (by decide +kernel)) rfl
theorem se_X9_runScript : Cond.selects RX9 yX9_runScript yX9_runScript ∈ tl_GW := tl_inGW (List.mem_of_getElem? (i := 947) (by decide +kernel)) rfl
theorem cd_X9_runScript : Cond.code yX9_runScript cX9_runScript 6 (some .int) ∈ tl_GW := tl_inGW (List.mem_of_getElem? (i := 948) (by decide +kernel)) rfl
theorem ml_X9_266 : Cond.methodLink RX9 266 yX9_numbersOf ∈ tl_GW := tl_inGW (List.mem_of_getElem? (i := 949) (by decide +kernel)) rfl
theorem sm_X9_numbersOf : Cond.static yX9_numbersOf ∈ tl_GW := tl_inGW (List.mem_of_getElem? (i := 950) (by decide +kernel)) rfl
theorem cd_X9_numbersOf : Cond.code yX9_numbersOf cX9_numbersOf 1 (some .long) ∈ tl_GW := tl_inGW (List.mem_of_getElem? (i := 951) (by decide +kernel)) rfl
theorem kl_X9_270 : Cond.constantLong RX9 270 (1000000) ∈ tl_GW := tl_inGW (List.mem_of_getElem? (i := 952) (by decide +kernel)) rfl
theorem kl_X9_329 : Cond.constantLong RX9 329 (1000000000000) ∈ tl_GW := tl_inGW (List.mem_of_getElem? (i := 953) (by decide +kernel)) rfl
theorem kl_X9_331 : Cond.constantLong RX9 331 (1000000000000000000) ∈ tl_GW := tl_inGW (List.mem_of_getElem? (i := 954) (by decide +kernel)) rfl
theorem ml_X9_272 : Cond.methodLink RX9 272 yX0_readGroup ∈ tl_GW := tl_inGW (List.mem_of_getElem? (i := 955) (by decide +kernel)) rfl
theorem im_X0_readGroup : Cond.instanceMethod yX0_readGroup ∈ tl_GW := tl_inGW (List.mem_of_getElem? (i := 956) (by decide +kernel)) rfl
theorem se_X0_readGroup : Cond.selects RX0 yX0_readGroup yX0_readGroup ∈ tl_GW := tl_inGW (List.mem_of_getElem? (i := 957) (by decide +kernel)) rfl
theorem cd_X0_readGroup : Cond.code yX0_readGroup cX0_readGroup 9 (some .boolean) ∈ tl_GW := tl_inGW (List.mem_of_getElem? (i := 958) (by decide +kernel)) rfl
theorem kc_X0_25 : Cond.constant RX0 25 (100000) ∈ tl_GW := tl_inGW (List.mem_of_getElem? (i := 959) (by decide +kernel)) rfl
theorem ml_X0_26 : Cond.methodLink RX0 26 yX0_become ∈ tl_GW := tl_inGW (List.mem_of_getElem? (i := 960) (by decide +kernel)) rfl
theorem ml_X9_275 : Cond.methodLink RX9 275 yX0_isTest ∈ tl_GW := tl_inGW (List.mem_of_getElem? (i := 961) (by decide +kernel)) rfl
theorem im_X0_isTest : Cond.instanceMethod yX0_isTest ∈ tl_GW := tl_inGW (List.mem_of_getElem? (i := 962) (by decide +kernel)) rfl
theorem se_X0_isTest : Cond.selects RX0 yX0_isTest yX0_isTest ∈ tl_GW := tl_inGW (List.mem_of_getElem? (i := 963) (by decide +kernel)) rfl
theorem cd_X0_isTest : Cond.code yX0_isTest cX0_isTest 1 (some .boolean) ∈ tl_GW := tl_inGW (List.mem_of_getElem? (i := 964) (by decide +kernel)) rfl
theorem ml_X9_278 : Cond.methodLink RX9 278 yX5_passes ∈ tl_GW := tl_inGW (List.mem_of_getElem? (i := 965) (by decide +kernel)) rfl
theorem im_X5_passes : Cond.instanceMethod yX5_passes ∈ tl_GW := tl_inGW (List.mem_of_getElem? (i := 966) (by decide +kernel)) rfl
theorem se_X5_passes : Cond.selects RX5 yX5_passes yX5_passes ∈ tl_GW := tl_inGW (List.mem_of_getElem? (i := 967) (by decide +kernel)) rfl
theorem cd_X5_passes : Cond.code yX5_passes cX5_passes 2 (some .boolean) ∈ tl_GW := tl_inGW (List.mem_of_getElem? (i := 968) (by decide +kernel)) rfl
theorem ml_L_210 : Cond.methodLink RL 210 yL_simulate ∈ tl_GW := tl_inGW (List.mem_of_getElem? (i := 969) (by decide +kernel)) rfl
theorem sm_L_simulate : Cond.static yL_simulate ∈ tl_GW := tl_inGW (List.mem_of_getElem? (i := 970) (by decide +kernel)) rfl
theorem ml_L_96 : Cond.methodLink RL 96 yX9_simulate ∈ tl_GW := tl_inGW (List.mem_of_getElem? (i := 972) (by decide +kernel)) rfl
theorem im_X9_simulate : Cond.instanceMethod yX9_simulate ∈ tl_GW := tl_inGW (List.mem_of_getElem? (i := 973) (by decide +kernel)) rfl
theorem se_X9_simulate : Cond.selects RX9 yX9_simulate yX9_simulate ∈ tl_GW := tl_inGW (List.mem_of_getElem? (i := 974) (by decide +kernel)) rfl
theorem cd_X9_simulate : Cond.code yX9_simulate cX9_simulate 7 (some .int) ∈ tl_GW := tl_inGW (List.mem_of_getElem? (i := 975) (by decide +kernel)) rfl
theorem kl_X9_281 : Cond.constantLong RX9 281 (6364136223846793005) ∈ tl_GW := tl_inGW (List.mem_of_getElem? (i := 976) (by decide +kernel)) rfl
theorem kl_X9_283 : Cond.constantLong RX9 283 (1442695040888963407) ∈ tl_GW := tl_inGW (List.mem_of_getElem? (i := 977) (by decide +kernel)) rfl
theorem ml_X9_285 : Cond.methodLink RX9 285 yX0_readTurn ∈ tl_GW := tl_inGW (List.mem_of_getElem? (i := 978) (by decide +kernel)) rfl
theorem im_X0_readTurn : Cond.instanceMethod yX0_readTurn ∈ tl_GW := tl_inGW (List.mem_of_getElem? (i := 979) (by decide +kernel)) rfl
theorem se_X0_readTurn : Cond.selects RX0 yX0_readTurn yX0_readTurn ∈ tl_GW := tl_inGW (List.mem_of_getElem? (i := 980) (by decide +kernel)) rfl
theorem cd_X0_readTurn : Cond.code yX0_readTurn cX0_readTurn 3 none ∈ tl_GW := tl_inGW (List.mem_of_getElem? (i := 981) (by decide +kernel)) rfl
theorem ml_X9_289 : Cond.methodLink RX9 289 yJ9_min_7cf53 ∈ tl_GW := tl_inGW (List.mem_of_getElem? (i := 982) (by decide +kernel)) rfl
theorem ml_L_214 : Cond.methodLink RL 214 yL_save ∈ tl_GW := tl_inGW (List.mem_of_getElem? (i := 983) (by decide +kernel)) rfl
theorem sm_L_save : Cond.static yL_save ∈ tl_GW := tl_inGW (List.mem_of_getElem? (i := 984) (by decide +kernel)) rfl
theorem ml_L_100 : Cond.methodLink RL 100 yX9_save ∈ tl_GW := tl_inGW (List.mem_of_getElem? (i := 986) (by decide +kernel)) rfl
theorem im_X9_save : Cond.instanceMethod yX9_save ∈ tl_GW := tl_inGW (List.mem_of_getElem? (i := 987) (by decide +kernel)) rfl
theorem se_X9_save : Cond.selects RX9 yX9_save yX9_save ∈ tl_GW := tl_inGW (List.mem_of_getElem? (i := 988) (by decide +kernel)) rfl
theorem cd_X9_save : Cond.code yX9_save cX9_save 2 (some .int) ∈ tl_GW := tl_inGW (List.mem_of_getElem? (i := 989) (by decide +kernel)) rfl
theorem ml_L_217 : Cond.methodLink RL 217 yL_restore ∈ tl_GW := tl_inGW (List.mem_of_getElem? (i := 990) (by decide +kernel)) rfl
theorem sm_L_restore : Cond.static yL_restore ∈ tl_GW := tl_inGW (List.mem_of_getElem? (i := 991) (by decide +kernel)) rfl
theorem ml_L_103 : Cond.methodLink RL 103 yX9_restore ∈ tl_GW := tl_inGW (List.mem_of_getElem? (i := 993) (by decide +kernel)) rfl
theorem im_X9_restore : Cond.instanceMethod yX9_restore ∈ tl_GW := tl_inGW (List.mem_of_getElem? (i := 994) (by decide +kernel)) rfl
theorem se_X9_restore : Cond.selects RX9 yX9_restore yX9_restore ∈ tl_GW := tl_inGW (List.mem_of_getElem? (i := 995) (by decide +kernel)) rfl
theorem cd_X9_restore : Cond.code yX9_restore cX9_restore 3 (some .int) ∈ tl_GW := tl_inGW (List.mem_of_getElem? (i := 996) (by decide +kernel)) rfl
theorem kk_L_107 : Cond.classLink RL 107 RX10 ∈ tl_GW := tl_inGW (List.mem_of_getElem? (i := 997) (by decide +kernel)) rfl
theorem ia_X10 : Cond.instantiable RX10 11 ∈ tl_GW := tl_inGW (List.mem_of_getElem? (i := 998) (by decide +kernel)) rfl
theorem ml_L_109 : Cond.methodLink RL 109 yX10_init ∈ tl_GW := tl_inGW (List.mem_of_getElem? (i := 999) (by decide +kernel)) rfl
theorem im_X10_init : Cond.instanceMethod yX10_init ∈ tl_GW := tl_inGW (List.mem_of_getElem? (i := 1000) (by decide +kernel)) rfl
theorem cd_X10_init : Cond.code yX10_init cX10_init 1 none ∈ tl_GW := tl_inGW (List.mem_of_getElem? (i := 1001) (by decide +kernel)) rfl
theorem ml_X10_1 : Cond.methodLink RX10 1 Lib.objectInit ∈ tl_GW := tl_inGW (List.mem_of_getElem? (i := 1002) (by decide +kernel)) rfl
theorem ml_X10_29 : Cond.methodLink RX10 29 yX10_clear ∈ tl_GW := tl_inGW (List.mem_of_getElem? (i := 1003) (by decide +kernel)) rfl
theorem sm_X10_clear : Cond.static yX10_clear ∈ tl_GW := tl_inGW (List.mem_of_getElem? (i := 1004) (by decide +kernel)) rfl
theorem cd_X10_clear : Cond.code yX10_clear cX10_clear 2 none ∈ tl_GW := tl_inGW (List.mem_of_getElem? (i := 1005) (by decide +kernel)) rfl
theorem fl_X10_33 : Cond.fieldLink RX10 33 "TunnelLampsModel" "refusal" "I" ∈ tl_GW := tl_inGW (List.mem_of_getElem? (i := 1006) (by decide +kernel)) rfl
theorem fl_X10_7 : Cond.fieldLink RX10 7 "TunnelLampsModel" "text" "[I" ∈ tl_GW := tl_inGW (List.mem_of_getElem? (i := 1007) (by decide +kernel)) rfl
theorem fl_X10_149 : Cond.fieldLink RX10 149 "TunnelLampsModel" "size" "I" ∈ tl_GW := tl_inGW (List.mem_of_getElem? (i := 1008) (by decide +kernel)) rfl
theorem fl_X10_13 : Cond.fieldLink RX10 13 "TunnelLampsModel" "now" "[I" ∈ tl_GW := tl_inGW (List.mem_of_getElem? (i := 1009) (by decide +kernel)) rfl
theorem fl_X10_16 : Cond.fieldLink RX10 16 "TunnelLampsModel" "trial" "[I" ∈ tl_GW := tl_inGW (List.mem_of_getElem? (i := 1010) (by decide +kernel)) rfl
theorem fl_X10_19 : Cond.fieldLink RX10 19 "TunnelLampsModel" "diary" "[I" ∈ tl_GW := tl_inGW (List.mem_of_getElem? (i := 1011) (by decide +kernel)) rfl
theorem fl_X10_224 : Cond.fieldLink RX10 224 "TunnelLampsModel" "acts" "I" ∈ tl_GW := tl_inGW (List.mem_of_getElem? (i := 1012) (by decide +kernel)) rfl
theorem fl_X10_22 : Cond.fieldLink RX10 22 "TunnelLampsModel" "kept" "[I" ∈ tl_GW := tl_inGW (List.mem_of_getElem? (i := 1013) (by decide +kernel)) rfl
theorem fl_X10_25 : Cond.fieldLink RX10 25 "TunnelLampsModel" "isKept" "[Z" ∈ tl_GW := tl_inGW (List.mem_of_getElem? (i := 1014) (by decide +kernel)) rfl
theorem fl_X10_156 : Cond.fieldLink RX10 156 "TunnelLampsModel" "spot" "I" ∈ tl_GW := tl_inGW (List.mem_of_getElem? (i := 1015) (by decide +kernel)) rfl
theorem fl_X10_161 : Cond.fieldLink RX10 161 "TunnelLampsModel" "out" "I" ∈ tl_GW := tl_inGW (List.mem_of_getElem? (i := 1016) (by decide +kernel)) rfl
theorem ac_int : Cond.arrayClass .int ∈ tl_GW := tl_inGW (List.mem_of_getElem? (i := 1040) (by decide +kernel)) rfl
theorem ml_L_116 : Cond.methodLink RL 116 yX10_thrown ∈ tl_GW := tl_inGW (List.mem_of_getElem? (i := 1041) (by decide +kernel)) rfl
theorem im_X10_thrown : Cond.instanceMethod yX10_thrown ∈ tl_GW := tl_inGW (List.mem_of_getElem? (i := 1042) (by decide +kernel)) rfl
theorem se_X10_thrown : Cond.selects RX10 yX10_thrown yX10_thrown ∈ tl_GW := tl_inGW (List.mem_of_getElem? (i := 1043) (by decide +kernel)) rfl
theorem cd_X10_thrown : Cond.code yX10_thrown cX10_thrown 1 (some .int) ∈ tl_GW := tl_inGW (List.mem_of_getElem? (i := 1044) (by decide +kernel)) rfl
theorem ml_L_115 : Cond.methodLink RL 115 yX10_append ∈ tl_GW := tl_inGW (List.mem_of_getElem? (i := 1045) (by decide +kernel)) rfl
theorem im_X10_append : Cond.instanceMethod yX10_append ∈ tl_GW := tl_inGW (List.mem_of_getElem? (i := 1046) (by decide +kernel)) rfl
theorem se_X10_append : Cond.selects RX10 yX10_append yX10_append ∈ tl_GW := tl_inGW (List.mem_of_getElem? (i := 1047) (by decide +kernel)) rfl
theorem cd_X10_append : Cond.code yX10_append cX10_append 2 (some .int) ∈ tl_GW := tl_inGW (List.mem_of_getElem? (i := 1048) (by decide +kernel)) rfl
theorem kl_X10_147 : Cond.constantLong RX10 147 (255) ∈ tl_GW := tl_inGW (List.mem_of_getElem? (i := 1049) (by decide +kernel)) rfl
theorem ml_X10_37 : Cond.methodLink RX10 37 yX10_in ∈ tl_GW := tl_inGW (List.mem_of_getElem? (i := 1050) (by decide +kernel)) rfl
theorem sm_X10_in : Cond.static yX10_in ∈ tl_GW := tl_inGW (List.mem_of_getElem? (i := 1051) (by decide +kernel)) rfl
theorem cd_X10_in : Cond.code yX10_in cX10_in 6 (some .boolean) ∈ tl_GW := tl_inGW (List.mem_of_getElem? (i := 1052) (by decide +kernel)) rfl
theorem ml_X10_152 : Cond.methodLink RX10 152 yX10_refused ∈ tl_GW := tl_inGW (List.mem_of_getElem? (i := 1053) (by decide +kernel)) rfl
theorem im_X10_refused : Cond.instanceMethod yX10_refused ∈ tl_GW := tl_inGW (List.mem_of_getElem? (i := 1055) (by decide +kernel)) rfl
theorem cd_X10_refused : Cond.code yX10_refused cX10_refused 2 (some .boolean) ∈ tl_GW := tl_inGW (List.mem_of_getElem? (i := 1056) (by decide +kernel)) rfl
theorem ml_L_122 : Cond.methodLink RL 122 yX10_clearText ∈ tl_GW := tl_inGW (List.mem_of_getElem? (i := 1057) (by decide +kernel)) rfl
theorem im_X10_clearText : Cond.instanceMethod yX10_clearText ∈ tl_GW := tl_inGW (List.mem_of_getElem? (i := 1058) (by decide +kernel)) rfl
theorem se_X10_clearText : Cond.selects RX10 yX10_clearText yX10_clearText ∈ tl_GW := tl_inGW (List.mem_of_getElem? (i := 1059) (by decide +kernel)) rfl
theorem cd_X10_clearText : Cond.code yX10_clearText cX10_clearText 2 (some .int) ∈ tl_GW := tl_inGW (List.mem_of_getElem? (i := 1060) (by decide +kernel)) rfl
theorem ml_L_126 : Cond.methodLink RL 126 yX10_errorPosition ∈ tl_GW := tl_inGW (List.mem_of_getElem? (i := 1061) (by decide +kernel)) rfl
theorem im_X10_errorPosition : Cond.instanceMethod yX10_errorPosition ∈ tl_GW := tl_inGW (List.mem_of_getElem? (i := 1062) (by decide +kernel)) rfl
theorem se_X10_errorPosition : Cond.selects RX10 yX10_errorPosition yX10_errorPosition ∈ tl_GW := tl_inGW (List.mem_of_getElem? (i := 1063) (by decide +kernel)) rfl
theorem cd_X10_errorPosition : Cond.code yX10_errorPosition cX10_errorPosition 1 (some .int) ∈ tl_GW := tl_inGW (List.mem_of_getElem? (i := 1064) (by decide +kernel)) rfl
theorem ml_X10_217 : Cond.methodLink RX10 217 yX10_readText ∈ tl_GW := tl_inGW (List.mem_of_getElem? (i := 1065) (by decide +kernel)) rfl
theorem im_X10_readText : Cond.instanceMethod yX10_readText ∈ tl_GW := tl_inGW (List.mem_of_getElem? (i := 1067) (by decide +kernel)) rfl
theorem cd_X10_readText : Cond.code yX10_readText cX10_readText 2 (some .int) ∈ tl_GW := tl_inGW (List.mem_of_getElem? (i := 1068) (by decide +kernel)) rfl
theorem ml_X10_214 : Cond.methodLink RX10 214 yX10_readCommand ∈ tl_GW := tl_inGW (List.mem_of_getElem? (i := 1069) (by decide +kernel)) rfl
theorem im_X10_readCommand : Cond.instanceMethod yX10_readCommand ∈ tl_GW := tl_inGW (List.mem_of_getElem? (i := 1071) (by decide +kernel)) rfl
theorem cd_X10_readCommand : Cond.code yX10_readCommand cX10_readCommand 5 (some .boolean) ∈ tl_GW := tl_inGW (List.mem_of_getElem? (i := 1072) (by decide +kernel)) rfl
theorem ml_X10_164 : Cond.methodLink RX10 164 yX10_figures ∈ tl_GW := tl_inGW (List.mem_of_getElem? (i := 1073) (by decide +kernel)) rfl
theorem im_X10_figures : Cond.instanceMethod yX10_figures ∈ tl_GW := tl_inGW (List.mem_of_getElem? (i := 1075) (by decide +kernel)) rfl
theorem cd_X10_figures : Cond.code yX10_figures cX10_figures 9 (some .int) ∈ tl_GW := tl_inGW (List.mem_of_getElem? (i := 1076) (by decide +kernel)) rfl
theorem kl_X10_159 : Cond.constantLong RX10 159 (9) ∈ tl_GW := tl_inGW (List.mem_of_getElem? (i := 1077) (by decide +kernel)) rfl
theorem ml_X10_190 : Cond.methodLink RX10 190 yX10_galleryOn ∈ tl_GW := tl_inGW (List.mem_of_getElem? (i := 1078) (by decide +kernel)) rfl
theorem sm_X10_galleryOn : Cond.static yX10_galleryOn ∈ tl_GW := tl_inGW (List.mem_of_getElem? (i := 1079) (by decide +kernel)) rfl
theorem cd_X10_galleryOn : Cond.code yX10_galleryOn cX10_galleryOn 3 (some .int) ∈ tl_GW := tl_inGW (List.mem_of_getElem? (i := 1080) (by decide +kernel)) rfl
theorem ml_X10_180 : Cond.methodLink RX10 180 yX10_done ∈ tl_GW := tl_inGW (List.mem_of_getElem? (i := 1081) (by decide +kernel)) rfl
theorem im_X10_done : Cond.instanceMethod yX10_done ∈ tl_GW := tl_inGW (List.mem_of_getElem? (i := 1083) (by decide +kernel)) rfl
theorem cd_X10_done : Cond.code yX10_done cX10_done 2 (some .boolean) ∈ tl_GW := tl_inGW (List.mem_of_getElem? (i := 1084) (by decide +kernel)) rfl
theorem ml_X10_167 : Cond.methodLink RX10 167 yX10_gallerySign ∈ tl_GW := tl_inGW (List.mem_of_getElem? (i := 1085) (by decide +kernel)) rfl
theorem im_X10_gallerySign : Cond.instanceMethod yX10_gallerySign ∈ tl_GW := tl_inGW (List.mem_of_getElem? (i := 1087) (by decide +kernel)) rfl
theorem cd_X10_gallerySign : Cond.code yX10_gallerySign cX10_gallerySign 2 (some .int) ∈ tl_GW := tl_inGW (List.mem_of_getElem? (i := 1088) (by decide +kernel)) rfl
theorem ml_X10_193 : Cond.methodLink RX10 193 yX10_canMiner ∈ tl_GW := tl_inGW (List.mem_of_getElem? (i := 1089) (by decide +kernel)) rfl
theorem sm_X10_canMiner : Cond.static yX10_canMiner ∈ tl_GW := tl_inGW (List.mem_of_getElem? (i := 1090) (by decide +kernel)) rfl
theorem cd_X10_canMiner : Cond.code yX10_canMiner cX10_canMiner 2 (some .boolean) ∈ tl_GW := tl_inGW (List.mem_of_getElem? (i := 1091) (by decide +kernel)) rfl
theorem ml_X10_41 : Cond.methodLink RX10 41 yX10_isGallery ∈ tl_GW := tl_inGW (List.mem_of_getElem? (i := 1092) (by decide +kernel)) rfl
theorem sm_X10_isGallery : Cond.static yX10_isGallery ∈ tl_GW := tl_inGW (List.mem_of_getElem? (i := 1093) (by decide +kernel)) rfl
theorem cd_X10_isGallery : Cond.code yX10_isGallery cX10_isGallery 2 (some .boolean) ∈ tl_GW := tl_inGW (List.mem_of_getElem? (i := 1094) (by decide +kernel)) rfl
theorem ml_X10_196 : Cond.methodLink RX10 196 yX10_minerOn ∈ tl_GW := tl_inGW (List.mem_of_getElem? (i := 1095) (by decide +kernel)) rfl
theorem sm_X10_minerOn : Cond.static yX10_minerOn ∈ tl_GW := tl_inGW (List.mem_of_getElem? (i := 1096) (by decide +kernel)) rfl
theorem cd_X10_minerOn : Cond.code yX10_minerOn cX10_minerOn 4 (some .int) ∈ tl_GW := tl_inGW (List.mem_of_getElem? (i := 1097) (by decide +kernel)) rfl
theorem ml_X10_199 : Cond.methodLink RX10 199 yX10_readLamp ∈ tl_GW := tl_inGW (List.mem_of_getElem? (i := 1098) (by decide +kernel)) rfl
theorem im_X10_readLamp : Cond.instanceMethod yX10_readLamp ∈ tl_GW := tl_inGW (List.mem_of_getElem? (i := 1100) (by decide +kernel)) rfl
theorem cd_X10_readLamp : Cond.code yX10_readLamp cX10_readLamp 6 (some .boolean) ∈ tl_GW := tl_inGW (List.mem_of_getElem? (i := 1101) (by decide +kernel)) rfl
theorem ml_X10_171 : Cond.methodLink RX10 171 yX10_cellSign ∈ tl_GW := tl_inGW (List.mem_of_getElem? (i := 1102) (by decide +kernel)) rfl
theorem im_X10_cellSign : Cond.instanceMethod yX10_cellSign ∈ tl_GW := tl_inGW (List.mem_of_getElem? (i := 1104) (by decide +kernel)) rfl
theorem cd_X10_cellSign : Cond.code yX10_cellSign cX10_cellSign 2 (some .int) ∈ tl_GW := tl_inGW (List.mem_of_getElem? (i := 1105) (by decide +kernel)) rfl
theorem ml_X10_174 : Cond.methodLink RX10 174 yX10_canLamp ∈ tl_GW := tl_inGW (List.mem_of_getElem? (i := 1106) (by decide +kernel)) rfl
theorem sm_X10_canLamp : Cond.static yX10_canLamp ∈ tl_GW := tl_inGW (List.mem_of_getElem? (i := 1107) (by decide +kernel)) rfl
theorem cd_X10_canLamp : Cond.code yX10_canLamp cX10_canLamp 3 (some .boolean) ∈ tl_GW := tl_inGW (List.mem_of_getElem? (i := 1108) (by decide +kernel)) rfl
theorem ml_X10_139 : Cond.methodLink RX10 139 yX10_isCell ∈ tl_GW := tl_inGW (List.mem_of_getElem? (i := 1109) (by decide +kernel)) rfl
theorem sm_X10_isCell : Cond.static yX10_isCell ∈ tl_GW := tl_inGW (List.mem_of_getElem? (i := 1110) (by decide +kernel)) rfl
theorem cd_X10_isCell : Cond.code yX10_isCell cX10_isCell 3 (some .boolean) ∈ tl_GW := tl_inGW (List.mem_of_getElem? (i := 1111) (by decide +kernel)) rfl
theorem ml_X10_45 : Cond.methodLink RX10 45 yX10_depth ∈ tl_GW := tl_inGW (List.mem_of_getElem? (i := 1112) (by decide +kernel)) rfl
theorem sm_X10_depth : Cond.static yX10_depth ∈ tl_GW := tl_inGW (List.mem_of_getElem? (i := 1113) (by decide +kernel)) rfl
theorem cd_X10_depth : Cond.code yX10_depth cX10_depth 2 (some .int) ∈ tl_GW := tl_inGW (List.mem_of_getElem? (i := 1114) (by decide +kernel)) rfl
theorem ml_X10_177 : Cond.methodLink RX10 177 yX10_lampOn ∈ tl_GW := tl_inGW (List.mem_of_getElem? (i := 1115) (by decide +kernel)) rfl
theorem sm_X10_lampOn : Cond.static yX10_lampOn ∈ tl_GW := tl_inGW (List.mem_of_getElem? (i := 1116) (by decide +kernel)) rfl
theorem cd_X10_lampOn : Cond.code yX10_lampOn cX10_lampOn 6 (some .int) ∈ tl_GW := tl_inGW (List.mem_of_getElem? (i := 1117) (by decide +kernel)) rfl
theorem ml_X10_202 : Cond.methodLink RX10 202 yX10_storeOn ∈ tl_GW := tl_inGW (List.mem_of_getElem? (i := 1118) (by decide +kernel)) rfl
theorem sm_X10_storeOn : Cond.static yX10_storeOn ∈ tl_GW := tl_inGW (List.mem_of_getElem? (i := 1119) (by decide +kernel)) rfl
theorem cd_X10_storeOn : Cond.code yX10_storeOn cX10_storeOn 2 (some .int) ∈ tl_GW := tl_inGW (List.mem_of_getElem? (i := 1120) (by decide +kernel)) rfl
theorem ml_X10_205 : Cond.methodLink RX10 205 yX10_readHang ∈ tl_GW := tl_inGW (List.mem_of_getElem? (i := 1121) (by decide +kernel)) rfl
theorem im_X10_readHang : Cond.instanceMethod yX10_readHang ∈ tl_GW := tl_inGW (List.mem_of_getElem? (i := 1123) (by decide +kernel)) rfl
theorem cd_X10_readHang : Cond.code yX10_readHang cX10_readHang 5 (some .boolean) ∈ tl_GW := tl_inGW (List.mem_of_getElem? (i := 1124) (by decide +kernel)) rfl
theorem ml_X10_184 : Cond.methodLink RX10 184 yX10_lampSign ∈ tl_GW := tl_inGW (List.mem_of_getElem? (i := 1125) (by decide +kernel)) rfl
theorem im_X10_lampSign : Cond.instanceMethod yX10_lampSign ∈ tl_GW := tl_inGW (List.mem_of_getElem? (i := 1127) (by decide +kernel)) rfl
theorem cd_X10_lampSign : Cond.code yX10_lampSign cX10_lampSign 2 (some .int) ∈ tl_GW := tl_inGW (List.mem_of_getElem? (i := 1128) (by decide +kernel)) rfl
theorem ml_X10_187 : Cond.methodLink RX10 187 yX10_canHang ∈ tl_GW := tl_inGW (List.mem_of_getElem? (i := 1129) (by decide +kernel)) rfl
theorem sm_X10_canHang : Cond.static yX10_canHang ∈ tl_GW := tl_inGW (List.mem_of_getElem? (i := 1130) (by decide +kernel)) rfl
theorem cd_X10_canHang : Cond.code yX10_canHang cX10_canHang 4 (some .boolean) ∈ tl_GW := tl_inGW (List.mem_of_getElem? (i := 1131) (by decide +kernel)) rfl
theorem ml_X10_142 : Cond.methodLink RX10 142 yX10_isLamp ∈ tl_GW := tl_inGW (List.mem_of_getElem? (i := 1132) (by decide +kernel)) rfl
theorem sm_X10_isLamp : Cond.static yX10_isLamp ∈ tl_GW := tl_inGW (List.mem_of_getElem? (i := 1133) (by decide +kernel)) rfl
theorem cd_X10_isLamp : Cond.code yX10_isLamp cX10_isLamp 2 (some .boolean) ∈ tl_GW := tl_inGW (List.mem_of_getElem? (i := 1134) (by decide +kernel)) rfl
theorem ml_X10_120 : Cond.methodLink RX10 120 yX10_orderOn ∈ tl_GW := tl_inGW (List.mem_of_getElem? (i := 1135) (by decide +kernel)) rfl
theorem sm_X10_orderOn : Cond.static yX10_orderOn ∈ tl_GW := tl_inGW (List.mem_of_getElem? (i := 1136) (by decide +kernel)) rfl
theorem cd_X10_orderOn : Cond.code yX10_orderOn cX10_orderOn 6 (some .int) ∈ tl_GW := tl_inGW (List.mem_of_getElem? (i := 1137) (by decide +kernel)) rfl
theorem ml_X10_208 : Cond.methodLink RX10 208 yX10_canFill ∈ tl_GW := tl_inGW (List.mem_of_getElem? (i := 1138) (by decide +kernel)) rfl
theorem sm_X10_canFill : Cond.static yX10_canFill ∈ tl_GW := tl_inGW (List.mem_of_getElem? (i := 1139) (by decide +kernel)) rfl
theorem cd_X10_canFill : Cond.code yX10_canFill cX10_canFill 3 (some .boolean) ∈ tl_GW := tl_inGW (List.mem_of_getElem? (i := 1140) (by decide +kernel)) rfl
theorem kl_X10_145 : Cond.constantLong RX10 145 (99) ∈ tl_GW := tl_inGW (List.mem_of_getElem? (i := 1141) (by decide +kernel)) rfl
theorem ml_X10_211 : Cond.methodLink RX10 211 yX10_hoursOn ∈ tl_GW := tl_inGW (List.mem_of_getElem? (i := 1142) (by decide +kernel)) rfl
theorem sm_X10_hoursOn : Cond.static yX10_hoursOn ∈ tl_GW := tl_inGW (List.mem_of_getElem? (i := 1143) (by decide +kernel)) rfl
theorem cd_X10_hoursOn : Cond.code yX10_hoursOn cX10_hoursOn 4 (some .int) ∈ tl_GW := tl_inGW (List.mem_of_getElem? (i := 1144) (by decide +kernel)) rfl
theorem ml_X10_136 : Cond.methodLink RX10 136 yX10_hour ∈ tl_GW := tl_inGW (List.mem_of_getElem? (i := 1145) (by decide +kernel)) rfl
theorem sm_X10_hour : Cond.static yX10_hour ∈ tl_GW := tl_inGW (List.mem_of_getElem? (i := 1146) (by decide +kernel)) rfl
theorem cd_X10_hour : Cond.code yX10_hour cX10_hour 2 none ∈ tl_GW := tl_inGW (List.mem_of_getElem? (i := 1147) (by decide +kernel)) rfl
theorem ml_X10_124 : Cond.methodLink RX10 124 yX10_mine ∈ tl_GW := tl_inGW (List.mem_of_getElem? (i := 1148) (by decide +kernel)) rfl
theorem sm_X10_mine : Cond.static yX10_mine ∈ tl_GW := tl_inGW (List.mem_of_getElem? (i := 1149) (by decide +kernel)) rfl
theorem cd_X10_mine : Cond.code yX10_mine cX10_mine 4 none ∈ tl_GW := tl_inGW (List.mem_of_getElem? (i := 1150) (by decide +kernel)) rfl
theorem ml_X10_99 : Cond.methodLink RX10 99 yX10_ofMiner ∈ tl_GW := tl_inGW (List.mem_of_getElem? (i := 1151) (by decide +kernel)) rfl
theorem sm_X10_ofMiner : Cond.static yX10_ofMiner ∈ tl_GW := tl_inGW (List.mem_of_getElem? (i := 1152) (by decide +kernel)) rfl
theorem cd_X10_ofMiner : Cond.code yX10_ofMiner cX10_ofMiner 3 (some .int) ∈ tl_GW := tl_inGW (List.mem_of_getElem? (i := 1153) (by decide +kernel)) rfl
theorem ml_X10_102 : Cond.methodLink RX10 102 yX10_isLit ∈ tl_GW := tl_inGW (List.mem_of_getElem? (i := 1154) (by decide +kernel)) rfl
theorem sm_X10_isLit : Cond.static yX10_isLit ∈ tl_GW := tl_inGW (List.mem_of_getElem? (i := 1155) (by decide +kernel)) rfl
theorem cd_X10_isLit : Cond.code yX10_isLit cX10_isLit 4 (some .boolean) ∈ tl_GW := tl_inGW (List.mem_of_getElem? (i := 1156) (by decide +kernel)) rfl
theorem ml_X10_55 : Cond.methodLink RX10 55 yX10_lights ∈ tl_GW := tl_inGW (List.mem_of_getElem? (i := 1157) (by decide +kernel)) rfl
theorem sm_X10_lights : Cond.static yX10_lights ∈ tl_GW := tl_inGW (List.mem_of_getElem? (i := 1158) (by decide +kernel)) rfl
theorem cd_X10_lights : Cond.code yX10_lights cX10_lights 5 (some .boolean) ∈ tl_GW := tl_inGW (List.mem_of_getElem? (i := 1159) (by decide +kernel)) rfl
theorem ml_X10_51 : Cond.methodLink RX10 51 yX10_ofLamp ∈ tl_GW := tl_inGW (List.mem_of_getElem? (i := 1160) (by decide +kernel)) rfl
theorem sm_X10_ofLamp : Cond.static yX10_ofLamp ∈ tl_GW := tl_inGW (List.mem_of_getElem? (i := 1161) (by decide +kernel)) rfl
theorem cd_X10_ofLamp : Cond.code yX10_ofLamp cX10_ofLamp 3 (some .int) ∈ tl_GW := tl_inGW (List.mem_of_getElem? (i := 1162) (by decide +kernel)) rfl
theorem ml_X10_106 : Cond.methodLink RX10 106 yX10_hard ∈ tl_GW := tl_inGW (List.mem_of_getElem? (i := 1163) (by decide +kernel)) rfl
theorem sm_X10_hard : Cond.static yX10_hard ∈ tl_GW := tl_inGW (List.mem_of_getElem? (i := 1164) (by decide +kernel)) rfl
theorem cd_X10_hard : Cond.code yX10_hard cX10_hard 2 (some .int) ∈ tl_GW := tl_inGW (List.mem_of_getElem? (i := 1165) (by decide +kernel)) rfl
theorem ml_X10_127 : Cond.methodLink RX10 127 yX10_burn ∈ tl_GW := tl_inGW (List.mem_of_getElem? (i := 1166) (by decide +kernel)) rfl
theorem sm_X10_burn : Cond.static yX10_burn ∈ tl_GW := tl_inGW (List.mem_of_getElem? (i := 1167) (by decide +kernel)) rfl
theorem cd_X10_burn : Cond.code yX10_burn cX10_burn 2 none ∈ tl_GW := tl_inGW (List.mem_of_getElem? (i := 1168) (by decide +kernel)) rfl
theorem ml_X10_130 : Cond.methodLink RX10 130 yX10_ladGoes ∈ tl_GW := tl_inGW (List.mem_of_getElem? (i := 1169) (by decide +kernel)) rfl
theorem sm_X10_ladGoes : Cond.static yX10_ladGoes ∈ tl_GW := tl_inGW (List.mem_of_getElem? (i := 1170) (by decide +kernel)) rfl
theorem cd_X10_ladGoes : Cond.code yX10_ladGoes cX10_ladGoes 2 none ∈ tl_GW := tl_inGW (List.mem_of_getElem? (i := 1171) (by decide +kernel)) rfl
theorem ml_X10_93 : Cond.methodLink RX10 93 yX10_handleAll ∈ tl_GW := tl_inGW (List.mem_of_getElem? (i := 1172) (by decide +kernel)) rfl
theorem sm_X10_handleAll : Cond.static yX10_handleAll ∈ tl_GW := tl_inGW (List.mem_of_getElem? (i := 1173) (by decide +kernel)) rfl
theorem cd_X10_handleAll : Cond.code yX10_handleAll cX10_handleAll 1 none ∈ tl_GW := tl_inGW (List.mem_of_getElem? (i := 1174) (by decide +kernel)) rfl
theorem ml_X10_72 : Cond.methodLink RX10 72 yX10_goalGallery ∈ tl_GW := tl_inGW (List.mem_of_getElem? (i := 1175) (by decide +kernel)) rfl
theorem sm_X10_goalGallery : Cond.static yX10_goalGallery ∈ tl_GW := tl_inGW (List.mem_of_getElem? (i := 1176) (by decide +kernel)) rfl
theorem cd_X10_goalGallery : Cond.code yX10_goalGallery cX10_goalGallery 1 (some .int) ∈ tl_GW := tl_inGW (List.mem_of_getElem? (i := 1177) (by decide +kernel)) rfl
theorem ml_X10_62 : Cond.methodLink RX10 62 yX10_toMouth ∈ tl_GW := tl_inGW (List.mem_of_getElem? (i := 1178) (by decide +kernel)) rfl
theorem sm_X10_toMouth : Cond.static yX10_toMouth ∈ tl_GW := tl_inGW (List.mem_of_getElem? (i := 1179) (by decide +kernel)) rfl
theorem cd_X10_toMouth : Cond.code yX10_toMouth cX10_toMouth 1 (some .boolean) ∈ tl_GW := tl_inGW (List.mem_of_getElem? (i := 1180) (by decide +kernel)) rfl
theorem ml_X10_59 : Cond.methodLink RX10 59 yX10_ofOrder ∈ tl_GW := tl_inGW (List.mem_of_getElem? (i := 1181) (by decide +kernel)) rfl
theorem sm_X10_ofOrder : Cond.static yX10_ofOrder ∈ tl_GW := tl_inGW (List.mem_of_getElem? (i := 1182) (by decide +kernel)) rfl
theorem cd_X10_ofOrder : Cond.code yX10_ofOrder cX10_ofOrder 3 (some .int) ∈ tl_GW := tl_inGW (List.mem_of_getElem? (i := 1183) (by decide +kernel)) rfl
theorem ml_X10_66 : Cond.methodLink RX10 66 yX10_toTarget ∈ tl_GW := tl_inGW (List.mem_of_getElem? (i := 1184) (by decide +kernel)) rfl
theorem sm_X10_toTarget : Cond.static yX10_toTarget ∈ tl_GW := tl_inGW (List.mem_of_getElem? (i := 1185) (by decide +kernel)) rfl
theorem cd_X10_toTarget : Cond.code yX10_toTarget cX10_toTarget 1 (some .boolean) ∈ tl_GW := tl_inGW (List.mem_of_getElem? (i := 1186) (by decide +kernel)) rfl
theorem ml_X10_83 : Cond.methodLink RX10 83 yX10_goalCell ∈ tl_GW := tl_inGW (List.mem_of_getElem? (i := 1187) (by decide +kernel)) rfl
theorem sm_X10_goalCell : Cond.static yX10_goalCell ∈ tl_GW := tl_inGW (List.mem_of_getElem? (i := 1188) (by decide +kernel)) rfl
theorem cd_X10_goalCell : Cond.code yX10_goalCell cX10_goalCell 1 (some .int) ∈ tl_GW := tl_inGW (List.mem_of_getElem? (i := 1189) (by decide +kernel)) rfl
theorem ml_X10_86 : Cond.methodLink RX10 86 yX10_between ∈ tl_GW := tl_inGW (List.mem_of_getElem? (i := 1190) (by decide +kernel)) rfl
theorem sm_X10_between : Cond.static yX10_between ∈ tl_GW := tl_inGW (List.mem_of_getElem? (i := 1191) (by decide +kernel)) rfl
theorem cd_X10_between : Cond.code yX10_between cX10_between 4 (some .int) ∈ tl_GW := tl_inGW (List.mem_of_getElem? (i := 1192) (by decide +kernel)) rfl
theorem ml_X10_90 : Cond.methodLink RX10 90 yX10_handle ∈ tl_GW := tl_inGW (List.mem_of_getElem? (i := 1193) (by decide +kernel)) rfl
theorem sm_X10_handle : Cond.static yX10_handle ∈ tl_GW := tl_inGW (List.mem_of_getElem? (i := 1194) (by decide +kernel)) rfl
theorem cd_X10_handle : Cond.code yX10_handle cX10_handle 3 none ∈ tl_GW := tl_inGW (List.mem_of_getElem? (i := 1195) (by decide +kernel)) rfl
theorem ml_X10_69 : Cond.methodLink RX10 69 yX10_takeOil ∈ tl_GW := tl_inGW (List.mem_of_getElem? (i := 1196) (by decide +kernel)) rfl
theorem sm_X10_takeOil : Cond.static yX10_takeOil ∈ tl_GW := tl_inGW (List.mem_of_getElem? (i := 1197) (by decide +kernel)) rfl
theorem cd_X10_takeOil : Cond.code yX10_takeOil cX10_takeOil 2 none ∈ tl_GW := tl_inGW (List.mem_of_getElem? (i := 1198) (by decide +kernel)) rfl
theorem ml_X10_76 : Cond.methodLink RX10 76 yX10_pour ∈ tl_GW := tl_inGW (List.mem_of_getElem? (i := 1199) (by decide +kernel)) rfl
theorem sm_X10_pour : Cond.static yX10_pour ∈ tl_GW := tl_inGW (List.mem_of_getElem? (i := 1200) (by decide +kernel)) rfl
theorem cd_X10_pour : Cond.code yX10_pour cX10_pour 4 none ∈ tl_GW := tl_inGW (List.mem_of_getElem? (i := 1201) (by decide +kernel)) rfl
theorem ml_X10_80 : Cond.methodLink RX10 80 yX10_orderDone ∈ tl_GW := tl_inGW (List.mem_of_getElem? (i := 1202) (by decide +kernel)) rfl
theorem sm_X10_orderDone : Cond.static yX10_orderDone ∈ tl_GW := tl_inGW (List.mem_of_getElem? (i := 1203) (by decide +kernel)) rfl
theorem cd_X10_orderDone : Cond.code yX10_orderDone cX10_orderDone 3 none ∈ tl_GW := tl_inGW (List.mem_of_getElem? (i := 1204) (by decide +kernel)) rfl
theorem ml_X10_96 : Cond.methodLink RX10 96 yX10_step ∈ tl_GW := tl_inGW (List.mem_of_getElem? (i := 1205) (by decide +kernel)) rfl
theorem sm_X10_step : Cond.static yX10_step ∈ tl_GW := tl_inGW (List.mem_of_getElem? (i := 1206) (by decide +kernel)) rfl
theorem cd_X10_step : Cond.code yX10_step cX10_step 2 none ∈ tl_GW := tl_inGW (List.mem_of_getElem? (i := 1207) (by decide +kernel)) rfl
theorem ml_X10_133 : Cond.methodLink RX10 133 yX10_looksHimself ∈ tl_GW := tl_inGW (List.mem_of_getElem? (i := 1208) (by decide +kernel)) rfl
theorem sm_X10_looksHimself : Cond.static yX10_looksHimself ∈ tl_GW := tl_inGW (List.mem_of_getElem? (i := 1209) (by decide +kernel)) rfl
theorem cd_X10_looksHimself : Cond.code yX10_looksHimself cX10_looksHimself 3 none ∈ tl_GW := tl_inGW (List.mem_of_getElem? (i := 1210) (by decide +kernel)) rfl
theorem ml_X10_110 : Cond.methodLink RX10 110 yX10_isWorked ∈ tl_GW := tl_inGW (List.mem_of_getElem? (i := 1211) (by decide +kernel)) rfl
theorem sm_X10_isWorked : Cond.static yX10_isWorked ∈ tl_GW := tl_inGW (List.mem_of_getElem? (i := 1212) (by decide +kernel)) rfl
theorem cd_X10_isWorked : Cond.code yX10_isWorked cX10_isWorked 3 (some .boolean) ∈ tl_GW := tl_inGW (List.mem_of_getElem? (i := 1213) (by decide +kernel)) rfl
theorem kl_X10_113 : Cond.constantLong RX10 113 (2) ∈ tl_GW := tl_inGW (List.mem_of_getElem? (i := 1214) (by decide +kernel)) rfl
theorem kl_X10_115 : Cond.constantLong RX10 115 (59) ∈ tl_GW := tl_inGW (List.mem_of_getElem? (i := 1215) (by decide +kernel)) rfl
theorem ml_X10_117 : Cond.methodLink RX10 117 yX10_forward ∈ tl_GW := tl_inGW (List.mem_of_getElem? (i := 1216) (by decide +kernel)) rfl
theorem sm_X10_forward : Cond.static yX10_forward ∈ tl_GW := tl_inGW (List.mem_of_getElem? (i := 1217) (by decide +kernel)) rfl
theorem cd_X10_forward : Cond.code yX10_forward cX10_forward 5 (some .int) ∈ tl_GW := tl_inGW (List.mem_of_getElem? (i := 1218) (by decide +kernel)) rfl
theorem ml_L_130 : Cond.methodLink RL 130 yX10_load ∈ tl_GW := tl_inGW (List.mem_of_getElem? (i := 1219) (by decide +kernel)) rfl
theorem im_X10_load : Cond.instanceMethod yX10_load ∈ tl_GW := tl_inGW (List.mem_of_getElem? (i := 1220) (by decide +kernel)) rfl
theorem se_X10_load : Cond.selects RX10 yX10_load yX10_load ∈ tl_GW := tl_inGW (List.mem_of_getElem? (i := 1221) (by decide +kernel)) rfl
theorem cd_X10_load : Cond.code yX10_load cX10_load 1 (some .int) ∈ tl_GW := tl_inGW (List.mem_of_getElem? (i := 1222) (by decide +kernel)) rfl
theorem ml_X10_220 : Cond.methodLink RX10 220 yX10_copyState ∈ tl_GW := tl_inGW (List.mem_of_getElem? (i := 1223) (by decide +kernel)) rfl
theorem sm_X10_copyState : Cond.static yX10_copyState ∈ tl_GW := tl_inGW (List.mem_of_getElem? (i := 1224) (by decide +kernel)) rfl
theorem cd_X10_copyState : Cond.code yX10_copyState cX10_copyState 5 none ∈ tl_GW := tl_inGW (List.mem_of_getElem? (i := 1225) (by decide +kernel)) rfl
theorem ml_L_133 : Cond.methodLink RL 133 yX10_about ∈ tl_GW := tl_inGW (List.mem_of_getElem? (i := 1226) (by decide +kernel)) rfl
theorem im_X10_about : Cond.instanceMethod yX10_about ∈ tl_GW := tl_inGW (List.mem_of_getElem? (i := 1227) (by decide +kernel)) rfl
theorem se_X10_about : Cond.selects RX10 yX10_about yX10_about ∈ tl_GW := tl_inGW (List.mem_of_getElem? (i := 1228) (by decide +kernel)) rfl
theorem cd_X10_about : Cond.code yX10_about cX10_about 4 (some .int) ∈ tl_GW := tl_inGW (List.mem_of_getElem? (i := 1229) (by decide +kernel)) rfl
theorem kl_X10_49 : Cond.constantLong RX10 49 (12) ∈ tl_GW := tl_inGW (List.mem_of_getElem? (i := 1230) (by decide +kernel)) rfl
theorem ml_L_137 : Cond.methodLink RL 137 yX10_galleryOf ∈ tl_GW := tl_inGW (List.mem_of_getElem? (i := 1231) (by decide +kernel)) rfl
theorem im_X10_galleryOf : Cond.instanceMethod yX10_galleryOf ∈ tl_GW := tl_inGW (List.mem_of_getElem? (i := 1232) (by decide +kernel)) rfl
theorem se_X10_galleryOf : Cond.selects RX10 yX10_galleryOf yX10_galleryOf ∈ tl_GW := tl_inGW (List.mem_of_getElem? (i := 1233) (by decide +kernel)) rfl
theorem cd_X10_galleryOf : Cond.code yX10_galleryOf cX10_galleryOf 6 (some .int) ∈ tl_GW := tl_inGW (List.mem_of_getElem? (i := 1234) (by decide +kernel)) rfl
theorem kl_X10_227 : Cond.constantLong RX10 227 (5) ∈ tl_GW := tl_inGW (List.mem_of_getElem? (i := 1235) (by decide +kernel)) rfl
theorem ml_L_140 : Cond.methodLink RL 140 yX10_minerOf ∈ tl_GW := tl_inGW (List.mem_of_getElem? (i := 1236) (by decide +kernel)) rfl
theorem im_X10_minerOf : Cond.instanceMethod yX10_minerOf ∈ tl_GW := tl_inGW (List.mem_of_getElem? (i := 1237) (by decide +kernel)) rfl
theorem se_X10_minerOf : Cond.selects RX10 yX10_minerOf yX10_minerOf ∈ tl_GW := tl_inGW (List.mem_of_getElem? (i := 1238) (by decide +kernel)) rfl
theorem cd_X10_minerOf : Cond.code yX10_minerOf cX10_minerOf 3 (some .int) ∈ tl_GW := tl_inGW (List.mem_of_getElem? (i := 1239) (by decide +kernel)) rfl
theorem ml_X10_229 : Cond.methodLink RX10 229 yX10_isMiner ∈ tl_GW := tl_inGW (List.mem_of_getElem? (i := 1240) (by decide +kernel)) rfl
theorem sm_X10_isMiner : Cond.static yX10_isMiner ∈ tl_GW := tl_inGW (List.mem_of_getElem? (i := 1241) (by decide +kernel)) rfl
theorem cd_X10_isMiner : Cond.code yX10_isMiner cX10_isMiner 2 (some .boolean) ∈ tl_GW := tl_inGW (List.mem_of_getElem? (i := 1242) (by decide +kernel)) rfl
theorem kl_X10_232 : Cond.constantLong RX10 232 (3) ∈ tl_GW := tl_inGW (List.mem_of_getElem? (i := 1243) (by decide +kernel)) rfl
theorem ml_L_143 : Cond.methodLink RL 143 yX10_lampOf ∈ tl_GW := tl_inGW (List.mem_of_getElem? (i := 1244) (by decide +kernel)) rfl
theorem im_X10_lampOf : Cond.instanceMethod yX10_lampOf ∈ tl_GW := tl_inGW (List.mem_of_getElem? (i := 1245) (by decide +kernel)) rfl
theorem se_X10_lampOf : Cond.selects RX10 yX10_lampOf yX10_lampOf ∈ tl_GW := tl_inGW (List.mem_of_getElem? (i := 1246) (by decide +kernel)) rfl
theorem cd_X10_lampOf : Cond.code yX10_lampOf cX10_lampOf 3 (some .int) ∈ tl_GW := tl_inGW (List.mem_of_getElem? (i := 1247) (by decide +kernel)) rfl
theorem kl_X10_234 : Cond.constantLong RX10 234 (4) ∈ tl_GW := tl_inGW (List.mem_of_getElem? (i := 1248) (by decide +kernel)) rfl
theorem ml_L_146 : Cond.methodLink RL 146 yX10_lad ∈ tl_GW := tl_inGW (List.mem_of_getElem? (i := 1249) (by decide +kernel)) rfl
theorem im_X10_lad : Cond.instanceMethod yX10_lad ∈ tl_GW := tl_inGW (List.mem_of_getElem? (i := 1250) (by decide +kernel)) rfl
theorem se_X10_lad : Cond.selects RX10 yX10_lad yX10_lad ∈ tl_GW := tl_inGW (List.mem_of_getElem? (i := 1251) (by decide +kernel)) rfl
theorem cd_X10_lad : Cond.code yX10_lad cX10_lad 2 (some .int) ∈ tl_GW := tl_inGW (List.mem_of_getElem? (i := 1252) (by decide +kernel)) rfl
theorem ml_X10_236 : Cond.methodLink RX10 236 yX10_stepsLeft ∈ tl_GW := tl_inGW (List.mem_of_getElem? (i := 1253) (by decide +kernel)) rfl
theorem im_X10_stepsLeft : Cond.instanceMethod yX10_stepsLeft ∈ tl_GW := tl_inGW (List.mem_of_getElem? (i := 1255) (by decide +kernel)) rfl
theorem cd_X10_stepsLeft : Cond.code yX10_stepsLeft cX10_stepsLeft 2 (some .int) ∈ tl_GW := tl_inGW (List.mem_of_getElem? (i := 1256) (by decide +kernel)) rfl
theorem ml_L_149 : Cond.methodLink RL 149 yX10_orderOf ∈ tl_GW := tl_inGW (List.mem_of_getElem? (i := 1257) (by decide +kernel)) rfl
theorem im_X10_orderOf : Cond.instanceMethod yX10_orderOf ∈ tl_GW := tl_inGW (List.mem_of_getElem? (i := 1258) (by decide +kernel)) rfl
theorem se_X10_orderOf : Cond.selects RX10 yX10_orderOf yX10_orderOf ∈ tl_GW := tl_inGW (List.mem_of_getElem? (i := 1259) (by decide +kernel)) rfl
theorem cd_X10_orderOf : Cond.code yX10_orderOf cX10_orderOf 3 (some .int) ∈ tl_GW := tl_inGW (List.mem_of_getElem? (i := 1260) (by decide +kernel)) rfl
theorem ml_L_152 : Cond.methodLink RL 152 yX10_lit ∈ tl_GW := tl_inGW (List.mem_of_getElem? (i := 1261) (by decide +kernel)) rfl
theorem im_X10_lit : Cond.instanceMethod yX10_lit ∈ tl_GW := tl_inGW (List.mem_of_getElem? (i := 1262) (by decide +kernel)) rfl
theorem se_X10_lit : Cond.selects RX10 yX10_lit yX10_lit ∈ tl_GW := tl_inGW (List.mem_of_getElem? (i := 1263) (by decide +kernel)) rfl
theorem cd_X10_lit : Cond.code yX10_lit cX10_lit 5 (some .int) ∈ tl_GW := tl_inGW (List.mem_of_getElem? (i := 1264) (by decide +kernel)) rfl
theorem ml_L_155 : Cond.methodLink RL 155 yX10_gallery ∈ tl_GW := tl_inGW (List.mem_of_getElem? (i := 1265) (by decide +kernel)) rfl
theorem im_X10_gallery : Cond.instanceMethod yX10_gallery ∈ tl_GW := tl_inGW (List.mem_of_getElem? (i := 1266) (by decide +kernel)) rfl
theorem se_X10_gallery : Cond.selects RX10 yX10_gallery yX10_gallery ∈ tl_GW := tl_inGW (List.mem_of_getElem? (i := 1267) (by decide +kernel)) rfl
theorem cd_X10_gallery : Cond.code yX10_gallery cX10_gallery 2 (some .int) ∈ tl_GW := tl_inGW (List.mem_of_getElem? (i := 1268) (by decide +kernel)) rfl
theorem kl_X10_240 : Cond.constantLong RX10 240 (60) ∈ tl_GW := tl_inGW (List.mem_of_getElem? (i := 1269) (by decide +kernel)) rfl
theorem ml_X10_242 : Cond.methodLink RX10 242 yX10_remember ∈ tl_GW := tl_inGW (List.mem_of_getElem? (i := 1270) (by decide +kernel)) rfl
theorem im_X10_remember : Cond.instanceMethod yX10_remember ∈ tl_GW := tl_inGW (List.mem_of_getElem? (i := 1272) (by decide +kernel)) rfl
theorem cd_X10_remember : Cond.code yX10_remember cX10_remember 2 none ∈ tl_GW := tl_inGW (List.mem_of_getElem? (i := 1273) (by decide +kernel)) rfl
theorem ml_L_158 : Cond.methodLink RL 158 yX10_miner ∈ tl_GW := tl_inGW (List.mem_of_getElem? (i := 1274) (by decide +kernel)) rfl
theorem im_X10_miner : Cond.instanceMethod yX10_miner ∈ tl_GW := tl_inGW (List.mem_of_getElem? (i := 1275) (by decide +kernel)) rfl
theorem se_X10_miner : Cond.selects RX10 yX10_miner yX10_miner ∈ tl_GW := tl_inGW (List.mem_of_getElem? (i := 1276) (by decide +kernel)) rfl
theorem cd_X10_miner : Cond.code yX10_miner cX10_miner 3 (some .int) ∈ tl_GW := tl_inGW (List.mem_of_getElem? (i := 1277) (by decide +kernel)) rfl
theorem ml_L_161 : Cond.methodLink RL 161 yX10_send ∈ tl_GW := tl_inGW (List.mem_of_getElem? (i := 1278) (by decide +kernel)) rfl
theorem im_X10_send : Cond.instanceMethod yX10_send ∈ tl_GW := tl_inGW (List.mem_of_getElem? (i := 1279) (by decide +kernel)) rfl
theorem se_X10_send : Cond.selects RX10 yX10_send yX10_send ∈ tl_GW := tl_inGW (List.mem_of_getElem? (i := 1280) (by decide +kernel)) rfl
theorem cd_X10_send : Cond.code yX10_send cX10_send 3 (some .int) ∈ tl_GW := tl_inGW (List.mem_of_getElem? (i := 1281) (by decide +kernel)) rfl
theorem ml_X10_245 : Cond.methodLink RX10 245 yX10_change ∈ tl_GW := tl_inGW (List.mem_of_getElem? (i := 1282) (by decide +kernel)) rfl
theorem sm_X10_change : Cond.static yX10_change ∈ tl_GW := tl_inGW (List.mem_of_getElem? (i := 1283) (by decide +kernel)) rfl
theorem cd_X10_change : Cond.code yX10_change cX10_change 4 (some .int) ∈ tl_GW := tl_inGW (List.mem_of_getElem? (i := 1284) (by decide +kernel)) rfl
theorem ml_L_165 : Cond.methodLink RL 165 yX10_lamp ∈ tl_GW := tl_inGW (List.mem_of_getElem? (i := 1285) (by decide +kernel)) rfl
theorem im_X10_lamp : Cond.instanceMethod yX10_lamp ∈ tl_GW := tl_inGW (List.mem_of_getElem? (i := 1286) (by decide +kernel)) rfl
theorem se_X10_lamp : Cond.selects RX10 yX10_lamp yX10_lamp ∈ tl_GW := tl_inGW (List.mem_of_getElem? (i := 1287) (by decide +kernel)) rfl
theorem cd_X10_lamp : Cond.code yX10_lamp cX10_lamp 5 (some .int) ∈ tl_GW := tl_inGW (List.mem_of_getElem? (i := 1288) (by decide +kernel)) rfl
theorem ml_L_168 : Cond.methodLink RL 168 yX10_store ∈ tl_GW := tl_inGW (List.mem_of_getElem? (i := 1289) (by decide +kernel)) rfl
theorem im_X10_store : Cond.instanceMethod yX10_store ∈ tl_GW := tl_inGW (List.mem_of_getElem? (i := 1290) (by decide +kernel)) rfl
theorem se_X10_store : Cond.selects RX10 yX10_store yX10_store ∈ tl_GW := tl_inGW (List.mem_of_getElem? (i := 1291) (by decide +kernel)) rfl
theorem cd_X10_store : Cond.code yX10_store cX10_store 2 (some .int) ∈ tl_GW := tl_inGW (List.mem_of_getElem? (i := 1292) (by decide +kernel)) rfl
theorem kl_X10_248 : Cond.constantLong RX10 248 (999) ∈ tl_GW := tl_inGW (List.mem_of_getElem? (i := 1293) (by decide +kernel)) rfl
theorem ml_L_172 : Cond.methodLink RL 172 yX10_hang ∈ tl_GW := tl_inGW (List.mem_of_getElem? (i := 1294) (by decide +kernel)) rfl
theorem im_X10_hang : Cond.instanceMethod yX10_hang ∈ tl_GW := tl_inGW (List.mem_of_getElem? (i := 1295) (by decide +kernel)) rfl
theorem se_X10_hang : Cond.selects RX10 yX10_hang yX10_hang ∈ tl_GW := tl_inGW (List.mem_of_getElem? (i := 1296) (by decide +kernel)) rfl
theorem cd_X10_hang : Cond.code yX10_hang cX10_hang 4 (some .int) ∈ tl_GW := tl_inGW (List.mem_of_getElem? (i := 1297) (by decide +kernel)) rfl
theorem ml_L_175 : Cond.methodLink RL 175 yX10_fill ∈ tl_GW := tl_inGW (List.mem_of_getElem? (i := 1298) (by decide +kernel)) rfl
theorem im_X10_fill : Cond.instanceMethod yX10_fill ∈ tl_GW := tl_inGW (List.mem_of_getElem? (i := 1299) (by decide +kernel)) rfl
theorem se_X10_fill : Cond.selects RX10 yX10_fill yX10_fill ∈ tl_GW := tl_inGW (List.mem_of_getElem? (i := 1300) (by decide +kernel)) rfl
theorem cd_X10_fill : Cond.code yX10_fill cX10_fill 3 (some .int) ∈ tl_GW := tl_inGW (List.mem_of_getElem? (i := 1301) (by decide +kernel)) rfl
theorem ml_L_178 : Cond.methodLink RL 178 yX10_drop ∈ tl_GW := tl_inGW (List.mem_of_getElem? (i := 1302) (by decide +kernel)) rfl
theorem im_X10_drop : Cond.instanceMethod yX10_drop ∈ tl_GW := tl_inGW (List.mem_of_getElem? (i := 1303) (by decide +kernel)) rfl
theorem se_X10_drop : Cond.selects RX10 yX10_drop yX10_drop ∈ tl_GW := tl_inGW (List.mem_of_getElem? (i := 1304) (by decide +kernel)) rfl
theorem cd_X10_drop : Cond.code yX10_drop cX10_drop 3 (some .int) ∈ tl_GW := tl_inGW (List.mem_of_getElem? (i := 1305) (by decide +kernel)) rfl
theorem ml_L_181 : Cond.methodLink RL 181 yX10_set ∈ tl_GW := tl_inGW (List.mem_of_getElem? (i := 1306) (by decide +kernel)) rfl
theorem im_X10_set : Cond.instanceMethod yX10_set ∈ tl_GW := tl_inGW (List.mem_of_getElem? (i := 1307) (by decide +kernel)) rfl
theorem se_X10_set : Cond.selects RX10 yX10_set yX10_set ∈ tl_GW := tl_inGW (List.mem_of_getElem? (i := 1308) (by decide +kernel)) rfl
theorem cd_X10_set : Cond.code yX10_set cX10_set 3 (some .int) ∈ tl_GW := tl_inGW (List.mem_of_getElem? (i := 1309) (by decide +kernel)) rfl
theorem ml_X10_250 : Cond.methodLink RX10 250 yX10_isSetting ∈ tl_GW := tl_inGW (List.mem_of_getElem? (i := 1310) (by decide +kernel)) rfl
theorem sm_X10_isSetting : Cond.static yX10_isSetting ∈ tl_GW := tl_inGW (List.mem_of_getElem? (i := 1311) (by decide +kernel)) rfl
theorem cd_X10_isSetting : Cond.code yX10_isSetting cX10_isSetting 2 (some .boolean) ∈ tl_GW := tl_inGW (List.mem_of_getElem? (i := 1312) (by decide +kernel)) rfl
theorem ml_L_184 : Cond.methodLink RL 184 yX10_hours ∈ tl_GW := tl_inGW (List.mem_of_getElem? (i := 1313) (by decide +kernel)) rfl
theorem im_X10_hours : Cond.instanceMethod yX10_hours ∈ tl_GW := tl_inGW (List.mem_of_getElem? (i := 1314) (by decide +kernel)) rfl
theorem se_X10_hours : Cond.selects RX10 yX10_hours yX10_hours ∈ tl_GW := tl_inGW (List.mem_of_getElem? (i := 1315) (by decide +kernel)) rfl
theorem cd_X10_hours : Cond.code yX10_hours cX10_hours 2 (some .int) ∈ tl_GW := tl_inGW (List.mem_of_getElem? (i := 1316) (by decide +kernel)) rfl
theorem ml_L_187 : Cond.methodLink RL 187 yX10_undo ∈ tl_GW := tl_inGW (List.mem_of_getElem? (i := 1317) (by decide +kernel)) rfl
theorem im_X10_undo : Cond.instanceMethod yX10_undo ∈ tl_GW := tl_inGW (List.mem_of_getElem? (i := 1318) (by decide +kernel)) rfl
theorem se_X10_undo : Cond.selects RX10 yX10_undo yX10_undo ∈ tl_GW := tl_inGW (List.mem_of_getElem? (i := 1319) (by decide +kernel)) rfl
theorem cd_X10_undo : Cond.code yX10_undo cX10_undo 1 (some .int) ∈ tl_GW := tl_inGW (List.mem_of_getElem? (i := 1320) (by decide +kernel)) rfl
theorem ml_L_190 : Cond.methodLink RL 190 yX10_darkIn ∈ tl_GW := tl_inGW (List.mem_of_getElem? (i := 1321) (by decide +kernel)) rfl
theorem im_X10_darkIn : Cond.instanceMethod yX10_darkIn ∈ tl_GW := tl_inGW (List.mem_of_getElem? (i := 1322) (by decide +kernel)) rfl
theorem se_X10_darkIn : Cond.selects RX10 yX10_darkIn yX10_darkIn ∈ tl_GW := tl_inGW (List.mem_of_getElem? (i := 1323) (by decide +kernel)) rfl
theorem cd_X10_darkIn : Cond.code yX10_darkIn cX10_darkIn 3 (some .int) ∈ tl_GW := tl_inGW (List.mem_of_getElem? (i := 1324) (by decide +kernel)) rfl
theorem ml_L_193 : Cond.methodLink RL 193 yX10_depthIn ∈ tl_GW := tl_inGW (List.mem_of_getElem? (i := 1325) (by decide +kernel)) rfl
theorem im_X10_depthIn : Cond.instanceMethod yX10_depthIn ∈ tl_GW := tl_inGW (List.mem_of_getElem? (i := 1326) (by decide +kernel)) rfl
theorem se_X10_depthIn : Cond.selects RX10 yX10_depthIn yX10_depthIn ∈ tl_GW := tl_inGW (List.mem_of_getElem? (i := 1327) (by decide +kernel)) rfl
theorem cd_X10_depthIn : Cond.code yX10_depthIn cX10_depthIn 3 (some .int) ∈ tl_GW := tl_inGW (List.mem_of_getElem? (i := 1328) (by decide +kernel)) rfl
theorem kl_X10_254 : Cond.constantLong RX10 254 (200) ∈ tl_GW := tl_inGW (List.mem_of_getElem? (i := 1329) (by decide +kernel)) rfl
theorem ml_L_197 : Cond.methodLink RL 197 yX10_doneIn ∈ tl_GW := tl_inGW (List.mem_of_getElem? (i := 1330) (by decide +kernel)) rfl
theorem im_X10_doneIn : Cond.instanceMethod yX10_doneIn ∈ tl_GW := tl_inGW (List.mem_of_getElem? (i := 1331) (by decide +kernel)) rfl
theorem se_X10_doneIn : Cond.selects RX10 yX10_doneIn yX10_doneIn ∈ tl_GW := tl_inGW (List.mem_of_getElem? (i := 1332) (by decide +kernel)) rfl
theorem cd_X10_doneIn : Cond.code yX10_doneIn cX10_doneIn 2 (some .int) ∈ tl_GW := tl_inGW (List.mem_of_getElem? (i := 1333) (by decide +kernel)) rfl
theorem ml_L_200 : Cond.methodLink RL 200 yX10_bestCell ∈ tl_GW := tl_inGW (List.mem_of_getElem? (i := 1334) (by decide +kernel)) rfl
theorem im_X10_bestCell : Cond.instanceMethod yX10_bestCell ∈ tl_GW := tl_inGW (List.mem_of_getElem? (i := 1335) (by decide +kernel)) rfl
theorem se_X10_bestCell : Cond.selects RX10 yX10_bestCell yX10_bestCell ∈ tl_GW := tl_inGW (List.mem_of_getElem? (i := 1336) (by decide +kernel)) rfl
theorem cd_X10_bestCell : Cond.code yX10_bestCell cX10_bestCell 9 (some .int) ∈ tl_GW := tl_inGW (List.mem_of_getElem? (i := 1337) (by decide +kernel)) rfl
theorem kl_X10_256 : Cond.constantLong RX10 256 (100) ∈ tl_GW := tl_inGW (List.mem_of_getElem? (i := 1338) (by decide +kernel)) rfl
theorem ml_L_203 : Cond.methodLink RL 203 yX10_steps ∈ tl_GW := tl_inGW (List.mem_of_getElem? (i := 1339) (by decide +kernel)) rfl
theorem im_X10_steps : Cond.instanceMethod yX10_steps ∈ tl_GW := tl_inGW (List.mem_of_getElem? (i := 1340) (by decide +kernel)) rfl
theorem se_X10_steps : Cond.selects RX10 yX10_steps yX10_steps ∈ tl_GW := tl_inGW (List.mem_of_getElem? (i := 1341) (by decide +kernel)) rfl
theorem cd_X10_steps : Cond.code yX10_steps cX10_steps 5 (some .int) ∈ tl_GW := tl_inGW (List.mem_of_getElem? (i := 1342) (by decide +kernel)) rfl
theorem ml_L_209 : Cond.methodLink RL 209 yX10_runScript ∈ tl_GW := tl_inGW (List.mem_of_getElem? (i := 1343) (by decide +kernel)) rfl
theorem im_X10_runScript : Cond.instanceMethod yX10_runScript ∈ tl_GW := tl_inGW (List.mem_of_getElem? (i := 1344) (by decide +kernel)) rfl
theorem se_X10_runScript : Cond.selects RX10 yX10_runScript yX10_runScript ∈ tl_GW := tl_inGW (List.mem_of_getElem? (i := 1345) (by decide +kernel)) rfl
theorem cd_X10_runScript : Cond.code yX10_runScript cX10_runScript 8 (some .int) ∈ tl_GW := tl_inGW (List.mem_of_getElem? (i := 1346) (by decide +kernel)) rfl
theorem kl_X10_261 : Cond.constantLong RX10 261 (1000000) ∈ tl_GW := tl_inGW (List.mem_of_getElem? (i := 1347) (by decide +kernel)) rfl
theorem kc_X10_263 : Cond.constant RX10 263 (100000) ∈ tl_GW := tl_inGW (List.mem_of_getElem? (i := 1348) (by decide +kernel)) rfl
theorem ml_X10_264 : Cond.methodLink RX10 264 yX10_command ∈ tl_GW := tl_inGW (List.mem_of_getElem? (i := 1349) (by decide +kernel)) rfl
theorem im_X10_command : Cond.instanceMethod yX10_command ∈ tl_GW := tl_inGW (List.mem_of_getElem? (i := 1351) (by decide +kernel)) rfl
theorem cd_X10_command : Cond.code yX10_command cX10_command 9 (some .boolean) ∈ tl_GW := tl_inGW (List.mem_of_getElem? (i := 1352) (by decide +kernel)) rfl
theorem ml_X10_258 : Cond.methodLink RX10 258 yX10_sends ∈ tl_GW := tl_inGW (List.mem_of_getElem? (i := 1353) (by decide +kernel)) rfl
theorem im_X10_sends : Cond.instanceMethod yX10_sends ∈ tl_GW := tl_inGW (List.mem_of_getElem? (i := 1355) (by decide +kernel)) rfl
theorem cd_X10_sends : Cond.code yX10_sends cX10_sends 4 (some .boolean) ∈ tl_GW := tl_inGW (List.mem_of_getElem? (i := 1356) (by decide +kernel)) rfl
theorem ml_L_213 : Cond.methodLink RL 213 yX10_simulate ∈ tl_GW := tl_inGW (List.mem_of_getElem? (i := 1357) (by decide +kernel)) rfl
theorem im_X10_simulate : Cond.instanceMethod yX10_simulate ∈ tl_GW := tl_inGW (List.mem_of_getElem? (i := 1358) (by decide +kernel)) rfl
theorem se_X10_simulate : Cond.selects RX10 yX10_simulate yX10_simulate ∈ tl_GW := tl_inGW (List.mem_of_getElem? (i := 1359) (by decide +kernel)) rfl
theorem cd_X10_simulate : Cond.code yX10_simulate cX10_simulate 10 (some .int) ∈ tl_GW := tl_inGW (List.mem_of_getElem? (i := 1360) (by decide +kernel)) rfl
theorem kl_X10_267 : Cond.constantLong RX10 267 (6364136223846793005) ∈ tl_GW := tl_inGW (List.mem_of_getElem? (i := 1361) (by decide +kernel)) rfl
theorem kl_X10_269 : Cond.constantLong RX10 269 (1442695040888963407) ∈ tl_GW := tl_inGW (List.mem_of_getElem? (i := 1362) (by decide +kernel)) rfl
theorem ml_X10_271 : Cond.methodLink RX10 271 yX10_turnThing ∈ tl_GW := tl_inGW (List.mem_of_getElem? (i := 1363) (by decide +kernel)) rfl
theorem im_X10_turnThing : Cond.instanceMethod yX10_turnThing ∈ tl_GW := tl_inGW (List.mem_of_getElem? (i := 1365) (by decide +kernel)) rfl
theorem cd_X10_turnThing : Cond.code yX10_turnThing cX10_turnThing 4 none ∈ tl_GW := tl_inGW (List.mem_of_getElem? (i := 1366) (by decide +kernel)) rfl
theorem ml_X10_275 : Cond.methodLink RX10 275 yX10_turnOrder ∈ tl_GW := tl_inGW (List.mem_of_getElem? (i := 1367) (by decide +kernel)) rfl
theorem im_X10_turnOrder : Cond.instanceMethod yX10_turnOrder ∈ tl_GW := tl_inGW (List.mem_of_getElem? (i := 1369) (by decide +kernel)) rfl
theorem cd_X10_turnOrder : Cond.code yX10_turnOrder cX10_turnOrder 3 none ∈ tl_GW := tl_inGW (List.mem_of_getElem? (i := 1370) (by decide +kernel)) rfl
theorem ml_L_216 : Cond.methodLink RL 216 yX10_save ∈ tl_GW := tl_inGW (List.mem_of_getElem? (i := 1371) (by decide +kernel)) rfl
theorem im_X10_save : Cond.instanceMethod yX10_save ∈ tl_GW := tl_inGW (List.mem_of_getElem? (i := 1372) (by decide +kernel)) rfl
theorem se_X10_save : Cond.selects RX10 yX10_save yX10_save ∈ tl_GW := tl_inGW (List.mem_of_getElem? (i := 1373) (by decide +kernel)) rfl
theorem cd_X10_save : Cond.code yX10_save cX10_save 2 (some .int) ∈ tl_GW := tl_inGW (List.mem_of_getElem? (i := 1374) (by decide +kernel)) rfl
theorem ml_L_219 : Cond.methodLink RL 219 yX10_restore ∈ tl_GW := tl_inGW (List.mem_of_getElem? (i := 1375) (by decide +kernel)) rfl
theorem im_X10_restore : Cond.instanceMethod yX10_restore ∈ tl_GW := tl_inGW (List.mem_of_getElem? (i := 1376) (by decide +kernel)) rfl
theorem se_X10_restore : Cond.selects RX10 yX10_restore yX10_restore ∈ tl_GW := tl_inGW (List.mem_of_getElem? (i := 1377) (by decide +kernel)) rfl
theorem cd_X10_restore : Cond.code yX10_restore cX10_restore 2 (some .int) ∈ tl_GW := tl_inGW (List.mem_of_getElem? (i := 1378) (by decide +kernel)) rfl
theorem kl_L_204 : Cond.constantLong RL 204 (4294967295) ∈ tl_GW := tl_inGW (List.mem_of_getElem? (i := 1379) (by decide +kernel)) rfl
theorem ac_long : Cond.arrayClass .long ∈ tl_GW := tl_inGW (List.mem_of_getElem? (i := 1380) (by decide +kernel)) rfl
theorem se_X6_readNumbers : Cond.selects RX6 yX6_readNumbers yX6_readNumbers ∈ tl_GW := tl_inGWs (List.mem_of_getElem? (i := 0) (by decide +kernel)) rfl
theorem se_X6_readNumber : Cond.selects RX6 yX6_readNumber yX6_readNumber ∈ tl_GW := tl_inGWs (List.mem_of_getElem? (i := 1) (by decide +kernel)) rfl
theorem se_X6_readGallery : Cond.selects RX6 yX6_readGallery yX6_readGallery ∈ tl_GW := tl_inGWs (List.mem_of_getElem? (i := 2) (by decide +kernel)) rfl
theorem se_X6_readCell : Cond.selects RX6 yX6_readCell yX6_readCell ∈ tl_GW := tl_inGWs (List.mem_of_getElem? (i := 3) (by decide +kernel)) rfl
theorem se_X6_readLamp : Cond.selects RX6 yX6_readLamp yX6_readLamp ∈ tl_GW := tl_inGWs (List.mem_of_getElem? (i := 4) (by decide +kernel)) rfl
theorem se_X5_minersWork : Cond.selects RX5 yX5_minersWork yX5_minersWork ∈ tl_GW := tl_inGWs (List.mem_of_getElem? (i := 5) (by decide +kernel)) rfl
theorem se_X5_lampsBurn : Cond.selects RX5 yX5_lampsBurn yX5_lampsBurn ∈ tl_GW := tl_inGWs (List.mem_of_getElem? (i := 6) (by decide +kernel)) rfl
theorem se_X5_doesWhatNeedsNoStep : Cond.selects RX5 yX5_doesWhatNeedsNoStep yX5_doesWhatNeedsNoStep ∈ tl_GW := tl_inGWs (List.mem_of_getElem? (i := 7) (by decide +kernel)) rfl
theorem se_X5_takesLamp : Cond.selects RX5 yX5_takesLamp yX5_takesLamp ∈ tl_GW := tl_inGWs (List.mem_of_getElem? (i := 8) (by decide +kernel)) rfl
theorem se_X5_hangsLamp : Cond.selects RX5 yX5_hangsLamp yX5_hangsLamp ∈ tl_GW := tl_inGWs (List.mem_of_getElem? (i := 9) (by decide +kernel)) rfl
theorem se_X5_poursOil : Cond.selects RX5 yX5_poursOil yX5_poursOil ∈ tl_GW := tl_inGWs (List.mem_of_getElem? (i := 10) (by decide +kernel)) rfl
theorem se_X5_fetchesOil : Cond.selects RX5 yX5_fetchesOil yX5_fetchesOil ∈ tl_GW := tl_inGWs (List.mem_of_getElem? (i := 11) (by decide +kernel)) rfl
theorem se_X5_makesStep : Cond.selects RX5 yX5_makesStep yX5_makesStep ∈ tl_GW := tl_inGWs (List.mem_of_getElem? (i := 12) (by decide +kernel)) rfl
theorem se_X5_ladSeesTheDark : Cond.selects RX5 yX5_ladSeesTheDark yX5_ladSeesTheDark ∈ tl_GW := tl_inGWs (List.mem_of_getElem? (i := 13) (by decide +kernel)) rfl
theorem se_X5_fullestLampBelow : Cond.selects RX5 yX5_fullestLampBelow yX5_fullestLampBelow ∈ tl_GW := tl_inGWs (List.mem_of_getElem? (i := 14) (by decide +kernel)) rfl
theorem se_X3_addOrder : Cond.selects RX3 yX3_addOrder yX3_addOrder ∈ tl_GW := tl_inGWs (List.mem_of_getElem? (i := 15) (by decide +kernel)) rfl
theorem se_X5_addGallery : Cond.selects RX5 yX5_addGallery yX5_addGallery ∈ tl_GW := tl_inGWs (List.mem_of_getElem? (i := 17) (by decide +kernel)) rfl
theorem se_X5_addMiner : Cond.selects RX5 yX5_addMiner yX5_addMiner ∈ tl_GW := tl_inGWs (List.mem_of_getElem? (i := 18) (by decide +kernel)) rfl
theorem se_X5_sendMiner : Cond.selects RX5 yX5_sendMiner yX5_sendMiner ∈ tl_GW := tl_inGWs (List.mem_of_getElem? (i := 19) (by decide +kernel)) rfl
theorem se_X5_addLamp : Cond.selects RX5 yX5_addLamp yX5_addLamp ∈ tl_GW := tl_inGWs (List.mem_of_getElem? (i := 20) (by decide +kernel)) rfl
theorem se_X5_bringOil : Cond.selects RX5 yX5_bringOil yX5_bringOil ∈ tl_GW := tl_inGWs (List.mem_of_getElem? (i := 21) (by decide +kernel)) rfl
theorem se_X5_changeSetting : Cond.selects RX5 yX5_changeSetting yX5_changeSetting ∈ tl_GW := tl_inGWs (List.mem_of_getElem? (i := 22) (by decide +kernel)) rfl
theorem se_X9_act : Cond.selects RX9 yX9_act yX9_act ∈ tl_GW := tl_inGWs (List.mem_of_getElem? (i := 23) (by decide +kernel)) rfl
theorem se_X10_refused : Cond.selects RX10 yX10_refused yX10_refused ∈ tl_GW := tl_inGWs (List.mem_of_getElem? (i := 24) (by decide +kernel)) rfl
theorem se_X10_readText : Cond.selects RX10 yX10_readText yX10_readText ∈ tl_GW := tl_inGWs (List.mem_of_getElem? (i := 25) (by decide +kernel)) rfl
theorem se_X10_readCommand : Cond.selects RX10 yX10_readCommand yX10_readCommand ∈ tl_GW := tl_inGWs (List.mem_of_getElem? (i := 26) (by decide +kernel)) rfl
theorem se_X10_figures : Cond.selects RX10 yX10_figures yX10_figures ∈ tl_GW := tl_inGWs (List.mem_of_getElem? (i := 27) (by decide +kernel)) rfl
theorem se_X10_done : Cond.selects RX10 yX10_done yX10_done ∈ tl_GW := tl_inGWs (List.mem_of_getElem? (i := 28) (by decide +kernel)) rfl
theorem se_X10_gallerySign : Cond.selects RX10 yX10_gallerySign yX10_gallerySign ∈ tl_GW := tl_inGWs (List.mem_of_getElem? (i := 29) (by decide +kernel)) rfl
theorem se_X10_readLamp : Cond.selects RX10 yX10_readLamp yX10_readLamp ∈ tl_GW := tl_inGWs (List.mem_of_getElem? (i := 30) (by decide +kernel)) rfl
theorem se_X10_cellSign : Cond.selects RX10 yX10_cellSign yX10_cellSign ∈ tl_GW := tl_inGWs (List.mem_of_getElem? (i := 31) (by decide +kernel)) rfl
theorem se_X10_readHang : Cond.selects RX10 yX10_readHang yX10_readHang ∈ tl_GW := tl_inGWs (List.mem_of_getElem? (i := 32) (by decide +kernel)) rfl
theorem se_X10_lampSign : Cond.selects RX10 yX10_lampSign yX10_lampSign ∈ tl_GW := tl_inGWs (List.mem_of_getElem? (i := 33) (by decide +kernel)) rfl
theorem se_X10_stepsLeft : Cond.selects RX10 yX10_stepsLeft yX10_stepsLeft ∈ tl_GW := tl_inGWs (List.mem_of_getElem? (i := 34) (by decide +kernel)) rfl
theorem se_X10_remember : Cond.selects RX10 yX10_remember yX10_remember ∈ tl_GW := tl_inGWs (List.mem_of_getElem? (i := 35) (by decide +kernel)) rfl
theorem se_X10_command : Cond.selects RX10 yX10_command yX10_command ∈ tl_GW := tl_inGWs (List.mem_of_getElem? (i := 36) (by decide +kernel)) rfl
theorem se_X10_sends : Cond.selects RX10 yX10_sends yX10_sends ∈ tl_GW := tl_inGWs (List.mem_of_getElem? (i := 37) (by decide +kernel)) rfl
theorem se_X10_turnThing : Cond.selects RX10 yX10_turnThing yX10_turnThing ∈ tl_GW := tl_inGWs (List.mem_of_getElem? (i := 38) (by decide +kernel)) rfl
theorem se_X10_turnOrder : Cond.selects RX10 yX10_turnOrder yX10_turnOrder ∈ tl_GW := tl_inGWs (List.mem_of_getElem? (i := 39) (by decide +kernel)) rfl
abbrev mX10_init : tl_M := (yX10_init, cX10_init, 1, none, tl_rm 1 6 1994)
abbrev mX10_thrown : tl_M := (yX10_thrown, cX10_thrown, 1, (some .int), tl_rm 0 0 0)
abbrev mX10_refused : tl_M := (yX10_refused, cX10_refused, 2, (some .boolean), tl_rm 0 0 0)
abbrev mX10_in : tl_M := (yX10_in, cX10_in, 6, (some .boolean), tl_rm 0 0 0)
abbrev mX10_copyState : tl_M := (yX10_copyState, cX10_copyState, 5, none, tl_rm 0 0 0)
abbrev mX10_clear : tl_M := (yX10_clear, cX10_clear, 2, none, tl_rm 0 0 0)
abbrev mX10_depth : tl_M := (yX10_depth, cX10_depth, 2, (some .int), tl_rm 0 0 0)
abbrev mX10_ofMiner : tl_M := (yX10_ofMiner, cX10_ofMiner, 3, (some .int), tl_rm 0 0 0)
abbrev mX10_ofLamp : tl_M := (yX10_ofLamp, cX10_ofLamp, 3, (some .int), tl_rm 0 0 0)
abbrev mX10_ofOrder : tl_M := (yX10_ofOrder, cX10_ofOrder, 3, (some .int), tl_rm 0 0 0)
abbrev mX10_isGallery : tl_M := (yX10_isGallery, cX10_isGallery, 2, (some .boolean), tl_rm 1 0 0)
abbrev mX10_isCell : tl_M := (yX10_isCell, cX10_isCell, 3, (some .boolean), tl_rm 2 0 0)
abbrev mX10_isMiner : tl_M := (yX10_isMiner, cX10_isMiner, 2, (some .boolean), tl_rm 1 0 0)
abbrev mX10_isLamp : tl_M := (yX10_isLamp, cX10_isLamp, 2, (some .boolean), tl_rm 1 0 0)
abbrev mX10_isSetting : tl_M := (yX10_isSetting, cX10_isSetting, 2, (some .boolean), tl_rm 1 0 0)
abbrev mX10_lights : tl_M := (yX10_lights, cX10_lights, 5, (some .boolean), tl_rm 1 0 0)
abbrev mX10_isLit : tl_M := (yX10_isLit, cX10_isLit, 4, (some .boolean), tl_rm 2 0 0)
abbrev mX10_hard : tl_M := (yX10_hard, cX10_hard, 2, (some .int), tl_rm 0 0 0)
abbrev mX10_between : tl_M := (yX10_between, cX10_between, 4, (some .int), tl_rm 0 0 0)
abbrev mX10_toMouth : tl_M := (yX10_toMouth, cX10_toMouth, 1, (some .boolean), tl_rm 1 0 0)
abbrev mX10_toTarget : tl_M := (yX10_toTarget, cX10_toTarget, 1, (some .boolean), tl_rm 1 0 0)
abbrev mX10_goalGallery : tl_M := (yX10_goalGallery, cX10_goalGallery, 1, (some .int), tl_rm 2 0 0)
abbrev mX10_goalCell : tl_M := (yX10_goalCell, cX10_goalCell, 1, (some .int), tl_rm 2 0 0)
abbrev mX10_orderDone : tl_M := (yX10_orderDone, cX10_orderDone, 3, none, tl_rm 0 0 0)
abbrev mX10_pour : tl_M := (yX10_pour, cX10_pour, 4, none, tl_rm 0 0 0)
abbrev mX10_takeOil : tl_M := (yX10_takeOil, cX10_takeOil, 2, none, tl_rm 1 0 0)
abbrev mX10_handle : tl_M := (yX10_handle, cX10_handle, 3, none, tl_rm 3 0 0)
abbrev mX10_handleAll : tl_M := (yX10_handleAll, cX10_handleAll, 1, none, tl_rm 4 0 0)
abbrev mX10_step : tl_M := (yX10_step, cX10_step, 2, none, tl_rm 3 0 0)
abbrev mX10_ladGoes : tl_M := (yX10_ladGoes, cX10_ladGoes, 2, none, tl_rm 5 0 0)
abbrev mX10_mine : tl_M := (yX10_mine, cX10_mine, 4, none, tl_rm 3 0 0)
abbrev mX10_burn : tl_M := (yX10_burn, cX10_burn, 2, none, tl_rm 1 0 0)
abbrev mX10_forward : tl_M := (yX10_forward, cX10_forward, 5, (some .int), tl_rm 1 0 0)
abbrev mX10_isWorked : tl_M := (yX10_isWorked, cX10_isWorked, 3, (some .boolean), tl_rm 1 0 0)
abbrev mX10_looksHimself : tl_M := (yX10_looksHimself, cX10_looksHimself, 3, none, tl_rm 3 0 0)
abbrev mX10_hour : tl_M := (yX10_hour, cX10_hour, 2, none, tl_rm 6 0 0)
abbrev mX10_hoursOn : tl_M := (yX10_hoursOn, cX10_hoursOn, 4, (some .int), tl_rm 7 0 0)
abbrev mX10_galleryOn : tl_M := (yX10_galleryOn, cX10_galleryOn, 3, (some .int), tl_rm 0 0 0)
abbrev mX10_minerOn : tl_M := (yX10_minerOn, cX10_minerOn, 4, (some .int), tl_rm 0 0 0)
abbrev mX10_lampOn : tl_M := (yX10_lampOn, cX10_lampOn, 6, (some .int), tl_rm 0 0 0)
abbrev mX10_storeOn : tl_M := (yX10_storeOn, cX10_storeOn, 2, (some .int), tl_rm 0 0 0)
abbrev mX10_orderOn : tl_M := (yX10_orderOn, cX10_orderOn, 6, (some .int), tl_rm 0 0 0)
abbrev mX10_canMiner : tl_M := (yX10_canMiner, cX10_canMiner, 2, (some .boolean), tl_rm 2 0 0)
abbrev mX10_canLamp : tl_M := (yX10_canLamp, cX10_canLamp, 3, (some .boolean), tl_rm 3 0 0)
abbrev mX10_canHang : tl_M := (yX10_canHang, cX10_canHang, 4, (some .boolean), tl_rm 3 0 0)
abbrev mX10_canFill : tl_M := (yX10_canFill, cX10_canFill, 3, (some .boolean), tl_rm 2 0 0)
abbrev mX10_change : tl_M := (yX10_change, cX10_change, 4, (some .int), tl_rm 0 0 0)
abbrev mX10_append : tl_M := (yX10_append, cX10_append, 2, (some .int), tl_rm 1 0 0)
abbrev mX10_clearText : tl_M := (yX10_clearText, cX10_clearText, 2, (some .int), tl_rm 0 0 0)
abbrev mX10_figures : tl_M := (yX10_figures, cX10_figures, 9, (some .int), tl_rm 1 0 0)
abbrev mX10_done : tl_M := (yX10_done, cX10_done, 2, (some .boolean), tl_rm 0 0 0)
abbrev mX10_gallerySign : tl_M := (yX10_gallerySign, cX10_gallerySign, 2, (some .int), tl_rm 2 0 0)
abbrev mX10_cellSign : tl_M := (yX10_cellSign, cX10_cellSign, 2, (some .int), tl_rm 2 0 0)
abbrev mX10_lampSign : tl_M := (yX10_lampSign, cX10_lampSign, 2, (some .int), tl_rm 2 0 0)
abbrev mX10_readLamp : tl_M := (yX10_readLamp, cX10_readLamp, 6, (some .boolean), tl_rm 4 0 0)
abbrev mX10_readHang : tl_M := (yX10_readHang, cX10_readHang, 5, (some .boolean), tl_rm 4 0 0)
abbrev mX10_readCommand : tl_M := (yX10_readCommand, cX10_readCommand, 5, (some .boolean), tl_rm 8 0 0)
abbrev mX10_readText : tl_M := (yX10_readText, cX10_readText, 2, (some .int), tl_rm 9 0 0)
abbrev mX10_errorPosition : tl_M := (yX10_errorPosition, cX10_errorPosition, 1, (some .int), tl_rm 10 0 0)
abbrev mX10_load : tl_M := (yX10_load, cX10_load, 1, (some .int), tl_rm 10 0 0)
abbrev mX10_about : tl_M := (yX10_about, cX10_about, 4, (some .int), tl_rm 1 0 0)
abbrev mX10_galleryOf : tl_M := (yX10_galleryOf, cX10_galleryOf, 6, (some .int), tl_rm 3 0 0)
abbrev mX10_minerOf : tl_M := (yX10_minerOf, cX10_minerOf, 3, (some .int), tl_rm 2 0 0)
abbrev mX10_lampOf : tl_M := (yX10_lampOf, cX10_lampOf, 3, (some .int), tl_rm 2 0 0)
abbrev mX10_stepsLeft : tl_M := (yX10_stepsLeft, cX10_stepsLeft, 2, (some .int), tl_rm 5 0 0)
abbrev mX10_lad : tl_M := (yX10_lad, cX10_lad, 2, (some .int), tl_rm 6 0 0)
abbrev mX10_orderOf : tl_M := (yX10_orderOf, cX10_orderOf, 3, (some .int), tl_rm 1 0 0)
abbrev mX10_lit : tl_M := (yX10_lit, cX10_lit, 5, (some .int), tl_rm 3 0 0)
abbrev mX10_remember : tl_M := (yX10_remember, cX10_remember, 2, none, tl_rm 1 0 0)
abbrev mX10_gallery : tl_M := (yX10_gallery, cX10_gallery, 2, (some .int), tl_rm 2 0 0)
abbrev mX10_miner : tl_M := (yX10_miner, cX10_miner, 3, (some .int), tl_rm 3 0 0)
abbrev mX10_send : tl_M := (yX10_send, cX10_send, 3, (some .int), tl_rm 2 0 0)
abbrev mX10_lamp : tl_M := (yX10_lamp, cX10_lamp, 5, (some .int), tl_rm 4 0 0)
abbrev mX10_store : tl_M := (yX10_store, cX10_store, 2, (some .int), tl_rm 2 0 0)
abbrev mX10_hang : tl_M := (yX10_hang, cX10_hang, 4, (some .int), tl_rm 3 0 0)
abbrev mX10_fill : tl_M := (yX10_fill, cX10_fill, 3, (some .int), tl_rm 2 0 0)
abbrev mX10_drop : tl_M := (yX10_drop, cX10_drop, 3, (some .int), tl_rm 2 0 0)
abbrev mX10_set : tl_M := (yX10_set, cX10_set, 3, (some .int), tl_rm 2 0 0)
abbrev mX10_hours : tl_M := (yX10_hours, cX10_hours, 2, (some .int), tl_rm 8 0 0)
abbrev mX10_undo : tl_M := (yX10_undo, cX10_undo, 1, (some .int), tl_rm 1 0 0)
abbrev mX10_darkIn : tl_M := (yX10_darkIn, cX10_darkIn, 3, (some .int), tl_rm 7 0 0)
abbrev mX10_depthIn : tl_M := (yX10_depthIn, cX10_depthIn, 3, (some .int), tl_rm 8 0 0)
abbrev mX10_doneIn : tl_M := (yX10_doneIn, cX10_doneIn, 2, (some .int), tl_rm 7 0 0)
abbrev mX10_bestCell : tl_M := (yX10_bestCell, cX10_bestCell, 9, (some .int), tl_rm 8 0 0)
abbrev mX10_steps : tl_M := (yX10_steps, cX10_steps, 5, (some .int), tl_rm 3 0 0)
abbrev mX10_sends : tl_M := (yX10_sends, cX10_sends, 4, (some .boolean), tl_rm 2 0 0)
abbrev mX10_command : tl_M := (yX10_command, cX10_command, 9, (some .boolean), tl_rm 8 0 0)
abbrev mX10_runScript : tl_M := (yX10_runScript, cX10_runScript, 8, (some .int), tl_rm 9 0 0)
abbrev mX10_turnThing : tl_M := (yX10_turnThing, cX10_turnThing, 4, none, tl_rm 4 0 0)
abbrev mX10_turnOrder : tl_M := (yX10_turnOrder, cX10_turnOrder, 3, none, tl_rm 4 0 0)
abbrev mX10_simulate : tl_M := (yX10_simulate, cX10_simulate, 10, (some .int), tl_rm 8 0 0)
abbrev mX10_save : tl_M := (yX10_save, cX10_save, 2, (some .int), tl_rm 1 0 0)
abbrev mX10_restore : tl_M := (yX10_restore, cX10_restore, 2, (some .int), tl_rm 1 0 0)
abbrev mX0_init : tl_M := (yX0_init, cX0_init, 1, none, tl_rm 1 0 0)
abbrev mX0_become : tl_M := (yX0_become, cX0_become, 6, none, tl_rm 0 0 0)
abbrev mX0_putNumber : tl_M := (yX0_putNumber, cX0_putNumber, 3, none, tl_rm 0 0 0)
abbrev mX0_isTest : tl_M := (yX0_isTest, cX0_isTest, 1, (some .boolean), tl_rm 0 0 0)
abbrev mX0_readGroup : tl_M := (yX0_readGroup, cX0_readGroup, 9, (some .boolean), tl_rm 1 0 0)
abbrev mX0_readTurn : tl_M := (yX0_readTurn, cX0_readTurn, 3, none, tl_rm 1 0 0)
abbrev mX4_init : tl_M := (yX4_init, cX4_init, 1, none, tl_rm 1 0 0)
abbrev mX4_copyFrom : tl_M := (yX4_copyFrom, cX4_copyFrom, 2, none, tl_rm 0 0 0)
abbrev mX4_lights : tl_M := (yX4_lights, cX4_lights, 3, (some .boolean), tl_rm 1 0 0)
abbrev mX4_burnsIn : tl_M := (yX4_burnsIn, cX4_burnsIn, 2, (some .boolean), tl_rm 0 0 0)
abbrev mX7_init : tl_M := (yX7_init, cX7_init, 1, none, tl_rm 1 0 0)
abbrev mX7_copyFrom : tl_M := (yX7_copyFrom, cX7_copyFrom, 2, none, tl_rm 0 0 0)
abbrev mX8_init : tl_M := (yX8_init, cX8_init, 1, none, tl_rm 1 0 0)
abbrev mX8_copyFrom : tl_M := (yX8_copyFrom, cX8_copyFrom, 2, none, tl_rm 0 0 0)
abbrev mX3_init : tl_M := (yX3_init, cX3_init, 2, none, tl_rm 2 7 36)
abbrev mX3_copyFrom : tl_M := (yX3_copyFrom, cX3_copyFrom, 3, none, tl_rm 1 0 0)
abbrev mX3_hasOrder : tl_M := (yX3_hasOrder, cX3_hasOrder, 2, (some .boolean), tl_rm 0 0 0)
abbrev mX3_hasRoomForOrder : tl_M := (yX3_hasRoomForOrder, cX3_hasRoomForOrder, 1, (some .boolean), tl_rm 0 0 0)
abbrev mX3_addHang : tl_M := (yX3_addHang, cX3_addHang, 4, (some .int), tl_rm 2 0 0)
abbrev mX3_addFill : tl_M := (yX3_addFill, cX3_addFill, 3, (some .int), tl_rm 2 0 0)
abbrev mX3_addOrder : tl_M := (yX3_addOrder, cX3_addOrder, 7, (some .int), tl_rm 1 0 0)
abbrev mX3_removeOrder : tl_M := (yX3_removeOrder, cX3_removeOrder, 4, (some .int), tl_rm 0 0 0)
abbrev mX3_handsAreFree : tl_M := (yX3_handsAreFree, cX3_handsAreFree, 1, (some .boolean), tl_rm 0 0 0)
abbrev mX3_isAt : tl_M := (yX3_isAt, cX3_isAt, 3, (some .boolean), tl_rm 0 0 0)
abbrev mX3_stepTowards : tl_M := (yX3_stepTowards, cX3_stepTowards, 3, none, tl_rm 0 0 0)
abbrev mX1_init : tl_M := (yX1_init, cX1_init, 1, none, tl_rm 1 0 0)
abbrev mX1_copyFrom : tl_M := (yX1_copyFrom, cX1_copyFrom, 2, none, tl_rm 0 0 0)
abbrev mX1_strike : tl_M := (yX1_strike, cX1_strike, 4, (some .int), tl_rm 1 0 0)
abbrev mX2_init : tl_M := (yX2_init, cX2_init, 2, none, tl_rm 4 407 1946)
abbrev mX2_remember : tl_M := (yX2_remember, cX2_remember, 2, none, tl_rm 3 0 0)
abbrev mX2_takeBack : tl_M := (yX2_takeBack, cX2_takeBack, 2, none, tl_rm 3 0 0)
abbrev mX2_forgetAll : tl_M := (yX2_forgetAll, cX2_forgetAll, 1, none, tl_rm 0 0 0)
abbrev mX6_init : tl_M := (yX6_init, cX6_init, 1, none, tl_rm 1 1 120)
abbrev mX6_isFull : tl_M := (yX6_isFull, cX6_isFull, 1, (some .boolean), tl_rm 0 0 0)
abbrev mX6_add : tl_M := (yX6_add, cX6_add, 2, (some .int), tl_rm 0 0 0)
abbrev mX6_empty : tl_M := (yX6_empty, cX6_empty, 2, (some .int), tl_rm 0 0 0)
abbrev mX6_startCommands : tl_M := (yX6_startCommands, cX6_startCommands, 1, none, tl_rm 0 0 0)
abbrev mX6_findError : tl_M := (yX6_findError, cX6_findError, 4, (some .int), tl_rm 5 0 0)
abbrev mX6_readCommand : tl_M := (yX6_readCommand, cX6_readCommand, 2, (some .boolean), tl_rm 4 0 0)
abbrev mX6_actionOf : tl_M := (yX6_actionOf, cX6_actionOf, 1, (some .int), tl_rm 0 0 0)
abbrev mX6_readNumbers : tl_M := (yX6_readNumbers, cX6_readNumbers, 2, (some .boolean), tl_rm 3 0 0)
abbrev mX6_readGallery : tl_M := (yX6_readGallery, cX6_readGallery, 3, (some .boolean), tl_rm 2 0 0)
abbrev mX6_readCell : tl_M := (yX6_readCell, cX6_readCell, 3, (some .boolean), tl_rm 2 0 0)
abbrev mX6_readLamp : tl_M := (yX6_readLamp, cX6_readLamp, 2, (some .boolean), tl_rm 2 0 0)
abbrev mX6_readNumber : tl_M := (yX6_readNumber, cX6_readNumber, 11, (some .boolean), tl_rm 1 0 0)
abbrev mX9_init : tl_M := (yX9_init, cX9_init, 2, none, tl_rm 5 558 2771)
abbrev mX9_append : tl_M := (yX9_append, cX9_append, 2, (some .int), tl_rm 8 1 6)
abbrev mX9_clearText : tl_M := (yX9_clearText, cX9_clearText, 1, (some .int), tl_rm 1 0 0)
abbrev mX9_errorPosition : tl_M := (yX9_errorPosition, cX9_errorPosition, 1, (some .int), tl_rm 6 0 0)
abbrev mX9_load : tl_M := (yX9_load, cX9_load, 3, (some .int), tl_rm 8 1 6)
abbrev mX9_about : tl_M := (yX9_about, cX9_about, 2, (some .int), tl_rm 8 1 6)
abbrev mX9_galleryOf : tl_M := (yX9_galleryOf, cX9_galleryOf, 4, (some .int), tl_rm 8 1 6)
abbrev mX9_minerOf : tl_M := (yX9_minerOf, cX9_minerOf, 4, (some .int), tl_rm 8 1 6)
abbrev mX9_lampOf : tl_M := (yX9_lampOf, cX9_lampOf, 4, (some .int), tl_rm 8 1 6)
abbrev mX9_lad : tl_M := (yX9_lad, cX9_lad, 2, (some .int), tl_rm 8 1 6)
abbrev mX9_orderOf : tl_M := (yX9_orderOf, cX9_orderOf, 5, (some .int), tl_rm 8 1 6)
abbrev mX9_lit : tl_M := (yX9_lit, cX9_lit, 3, (some .int), tl_rm 8 1 6)
abbrev mX9_gallery : tl_M := (yX9_gallery, cX9_gallery, 2, (some .int), tl_rm 8 1 6)
abbrev mX9_miner : tl_M := (yX9_miner, cX9_miner, 3, (some .int), tl_rm 8 1 6)
abbrev mX9_send : tl_M := (yX9_send, cX9_send, 3, (some .int), tl_rm 8 1 6)
abbrev mX9_lamp : tl_M := (yX9_lamp, cX9_lamp, 5, (some .int), tl_rm 8 1 6)
abbrev mX9_store : tl_M := (yX9_store, cX9_store, 2, (some .int), tl_rm 8 1 6)
abbrev mX9_hang : tl_M := (yX9_hang, cX9_hang, 4, (some .int), tl_rm 8 1 6)
abbrev mX9_fill : tl_M := (yX9_fill, cX9_fill, 3, (some .int), tl_rm 8 1 6)
abbrev mX9_drop : tl_M := (yX9_drop, cX9_drop, 2, (some .int), tl_rm 8 1 6)
abbrev mX9_set : tl_M := (yX9_set, cX9_set, 3, (some .int), tl_rm 8 1 6)
abbrev mX9_hours : tl_M := (yX9_hours, cX9_hours, 2, (some .int), tl_rm 8 1 6)
abbrev mX9_undo : tl_M := (yX9_undo, cX9_undo, 1, (some .int), tl_rm 8 1 6)
abbrev mX9_darkIn : tl_M := (yX9_darkIn, cX9_darkIn, 3, (some .int), tl_rm 8 1 6)
abbrev mX9_depthIn : tl_M := (yX9_depthIn, cX9_depthIn, 3, (some .int), tl_rm 8 1 6)
abbrev mX9_doneIn : tl_M := (yX9_doneIn, cX9_doneIn, 2, (some .int), tl_rm 5 0 0)
abbrev mX9_bestCell : tl_M := (yX9_bestCell, cX9_bestCell, 8, (some .int), tl_rm 8 1 6)
abbrev mX9_steps : tl_M := (yX9_steps, cX9_steps, 5, (some .int), tl_rm 8 1 6)
abbrev mX9_runScript : tl_M := (yX9_runScript, cX9_runScript, 6, (some .int), tl_rm 8 1 6)
abbrev mX9_simulate : tl_M := (yX9_simulate, cX9_simulate, 7, (some .int), tl_rm 8 1 6)
abbrev mX9_save : tl_M := (yX9_save, cX9_save, 2, (some .int), tl_rm 8 1 6)
abbrev mX9_restore : tl_M := (yX9_restore, cX9_restore, 3, (some .int), tl_rm 8 1 6)
abbrev mX9_act : tl_M := (yX9_act, cX9_act, 6, (some .int), tl_rm 7 1 6)
abbrev mX9_demand : tl_M := (yX9_demand, cX9_demand, 3, none, tl_rm 7 1 6)
abbrev mX9_throwFor : tl_M := (yX9_throwFor, cX9_throwFor, 1, none, tl_rm 6 1 6)
abbrev mX9_refusalOf : tl_M := (yX9_refusalOf, cX9_refusalOf, 3, (some .int), tl_rm 0 0 0)
abbrev mX9_isWithin : tl_M := (yX9_isWithin, cX9_isWithin, 3, (some .boolean), tl_rm 0 0 0)
abbrev mX9_strokesFor : tl_M := (yX9_strokesFor, cX9_strokesFor, 2, (some .int), tl_rm 0 0 0)
abbrev mX9_numbersOf : tl_M := (yX9_numbersOf, cX9_numbersOf, 1, (some .long), tl_rm 0 0 0)
abbrev mX5_init : tl_M := (yX5_init, cX5_init, 2, none, tl_rm 3 28 122)
abbrev mX5_copyFrom : tl_M := (yX5_copyFrom, cX5_copyFrom, 3, none, tl_rm 2 0 0)
abbrev mX5_hasGallery : tl_M := (yX5_hasGallery, cX5_hasGallery, 2, (some .boolean), tl_rm 0 0 0)
abbrev mX5_hasCell : tl_M := (yX5_hasCell, cX5_hasCell, 3, (some .boolean), tl_rm 1 0 0)
abbrev mX5_hasMiner : tl_M := (yX5_hasMiner, cX5_hasMiner, 2, (some .boolean), tl_rm 0 0 0)
abbrev mX5_hasLamp : tl_M := (yX5_hasLamp, cX5_hasLamp, 2, (some .boolean), tl_rm 0 0 0)
abbrev mX5_oilInLamps : tl_M := (yX5_oilInLamps, cX5_oilInLamps, 3, (some .int), tl_rm 0 0 0)
abbrev mX5_minersIn : tl_M := (yX5_minersIn, cX5_minersIn, 4, (some .int), tl_rm 0 0 0)
abbrev mX5_lampsIn : tl_M := (yX5_lampsIn, cX5_lampsIn, 4, (some .int), tl_rm 0 0 0)
abbrev mX5_isLit : tl_M := (yX5_isLit, cX5_isLit, 4, (some .boolean), tl_rm 2 0 0)
abbrev mX5_litCellByCell : tl_M := (yX5_litCellByCell, cX5_litCellByCell, 5, (some .int), tl_rm 3 0 0)
abbrev mX5_litBySpans : tl_M := (yX5_litBySpans, cX5_litBySpans, 11, (some .int), tl_rm 1 0 0)
abbrev mX5_attempt : tl_M := (yX5_attempt, cX5_attempt, 2, (some .boolean), tl_rm 6 0 0)
abbrev mX5_refusal : tl_M := (yX5_refusal, cX5_refusal, 2, (some .int), tl_rm 2 0 0)
abbrev mX5_isSetting : tl_M := (yX5_isSetting, cX5_isSetting, 2, (some .boolean), tl_rm 1 0 0)
abbrev mX5_perform : tl_M := (yX5_perform, cX5_perform, 2, (some .int), tl_rm 5 0 0)
abbrev mX5_addGallery : tl_M := (yX5_addGallery, cX5_addGallery, 3, (some .int), tl_rm 0 0 0)
abbrev mX5_addMiner : tl_M := (yX5_addMiner, cX5_addMiner, 4, (some .int), tl_rm 0 0 0)
abbrev mX5_sendMiner : tl_M := (yX5_sendMiner, cX5_sendMiner, 4, (some .int), tl_rm 1 0 0)
abbrev mX5_addLamp : tl_M := (yX5_addLamp, cX5_addLamp, 6, (some .int), tl_rm 0 0 0)
abbrev mX5_bringOil : tl_M := (yX5_bringOil, cX5_bringOil, 2, (some .int), tl_rm 0 0 0)
abbrev mX5_changeSetting : tl_M := (yX5_changeSetting, cX5_changeSetting, 4, (some .int), tl_rm 0 0 0)
abbrev mX5_passes : tl_M := (yX5_passes, cX5_passes, 2, (some .boolean), tl_rm 3 0 0)
abbrev mX5_letHoursGo : tl_M := (yX5_letHoursGo, cX5_letHoursGo, 4, (some .int), tl_rm 4 0 0)
abbrev mX5_minersWork : tl_M := (yX5_minersWork, cX5_minersWork, 4, none, tl_rm 3 0 0)
abbrev mX5_lampsBurn : tl_M := (yX5_lampsBurn, cX5_lampsBurn, 2, none, tl_rm 0 0 0)
abbrev mX5_ladWorks : tl_M := (yX5_ladWorks, cX5_ladWorks, 4, (some .int), tl_rm 3 0 0)
abbrev mX5_doesWhatNeedsNoStep : tl_M := (yX5_doesWhatNeedsNoStep, cX5_doesWhatNeedsNoStep, 3, (some .boolean), tl_rm 2 0 0)
abbrev mX5_takesLamp : tl_M := (yX5_takesLamp, cX5_takesLamp, 3, (some .boolean), tl_rm 1 0 0)
abbrev mX5_hangsLamp : tl_M := (yX5_hangsLamp, cX5_hangsLamp, 3, (some .boolean), tl_rm 1 0 0)
abbrev mX5_fetchesOil : tl_M := (yX5_fetchesOil, cX5_fetchesOil, 2, (some .boolean), tl_rm 1 0 0)
abbrev mX5_poursOil : tl_M := (yX5_poursOil, cX5_poursOil, 3, (some .boolean), tl_rm 1 0 0)
abbrev mX5_makesStep : tl_M := (yX5_makesStep, cX5_makesStep, 2, none, tl_rm 1 0 0)
abbrev mX5_ladSeesTheDark : tl_M := (yX5_ladSeesTheDark, cX5_ladSeesTheDark, 4, none, tl_rm 3 0 0)
abbrev mX5_fullestLampBelow : tl_M := (yX5_fullestLampBelow, cX5_fullestLampBelow, 6, (some .int), tl_rm 1 0 0)
end
section
/-! Rows for the walks that a program prints: functions that say what a method's bytes compute, and the steps by which a walk follows them. -/
theorem tl_Tcl {z a K o K1 : Nat} (h : ∀ i, i < 567 → tl_kinds[i]? = some K → tl_kinds[i + o]? = some K1) (hT : tl_T z a = some K) : tl_T z (a + o) = some K1 := by
  have hle := tl_T_le hT
  unfold tl_T at hT ⊢
  rw [if_pos hle] at hT
  rw [if_pos (by omega), show a + o - z = a - z + o by omega]
  have hlt : a - z < tl_kinds.length := (List.getElem?_eq_some_iff.mp hT).1
  exact h _ (by rw [show tl_kinds.length = 567 by decide +kernel] at hlt; exact hlt) hT
theorem tl_TclJ {z a K K1 N : Nat} (f : Nat → Nat) (h : ∀ i, i < 567 → tl_kinds[i]? = some K → ∀ j, j < N → tl_kinds[i + f j]? = some K1) {j : Nat} (hT : tl_T z a = some K) (hj : j < N) : tl_T z (a + f j) = some K1 :=
  tl_Tcl (fun i hi hk => h i hi hk j hj) hT
theorem tt_9_0 {z a : Nat} (h : tl_T z a = some 9) : tl_T z (a + 1) = some 6 := tl_Tcl (by decide +kernel) h
theorem tt_9_1 {z a : Nat} (h : tl_T z a = some 9) : tl_T z (a + 3) = some 0 := tl_Tcl (by decide +kernel) h
theorem tt_9_2 {z a : Nat} (h : tl_T z a = some 9) : tl_T z (a + 4) = some 5 := tl_Tcl (by decide +kernel) h
theorem tt_9_3 {z a : Nat} (h : tl_T z a = some 9) : tl_T z (a + 33) = some 5 := tl_Tcl (by decide +kernel) h
theorem tt_9_4 {z a : Nat} (h : tl_T z a = some 9) : tl_T z (a + 62) = some 5 := tl_Tcl (by decide +kernel) h
theorem tt_9_5 {z a : Nat} (h : tl_T z a = some 9) : tl_T z (a + 91) = some 2 := tl_Tcl (by decide +kernel) h
theorem tt_9_6 {z a : Nat} (h : tl_T z a = some 9) : tl_T z (a + 499) = some 23 := tl_Tcl (by decide +kernel) h
theorem tt_9_7 {z a : Nat} (h : tl_T z a = some 9) : tl_T z (a + 500) = some 16 := tl_Tcl (by decide +kernel) h
theorem tt_6_0 {z a : Nat} (h : tl_T z a = some 6) : tl_T z (a + 1) = some 11 := tl_Tcl (by decide +kernel) h
theorem tt_2_0 {z a : Nat} (h : tl_T z a = some 2) : tl_T z (a + 1) = some 22 := tl_Tcl (by decide +kernel) h
theorem tt_3_0 {z a : Nat} (h : tl_T z a = some 3) : tl_T z (a + 1) = some 21 := tl_Tcl (by decide +kernel) h
theorem tt_5_0 {z a : Nat} (h : tl_T z a = some 5) : tl_T z (a + 1) = some 18 := tl_Tcl (by decide +kernel) h
theorem tt_5_1 {z a : Nat} (h : tl_T z a = some 5) : tl_T z (a + 2) = some 19 := tl_Tcl (by decide +kernel) h
theorem tt_5_2 {z a : Nat} (h : tl_T z a = some 5) : tl_T z (a + 3) = some 20 := tl_Tcl (by decide +kernel) h
theorem tt_5_3 {z a : Nat} (h : tl_T z a = some 5) : tl_T z (a + 4) = some 3 := tl_Tcl (by decide +kernel) h
theorem tt_10_1 {z a : Nat} (h : tl_T z a = some 10) : tl_T z (a + 1) = some 12 := tl_Tcl (by decide +kernel) h
theorem tt_10_3 {z a : Nat} (h : tl_T z a = some 10) : tl_T z (a + 2) = some 13 := tl_Tcl (by decide +kernel) h
theorem tt_10_4 {z a : Nat} (h : tl_T z a = some 10) : tl_T z (a + 3) = some 13 := tl_Tcl (by decide +kernel) h
theorem tt_10_5 {z a : Nat} (h : tl_T z a = some 10) : tl_T z (a + 4) = some 14 := tl_Tcl (by decide +kernel) h
theorem tt_10_7 {z a : Nat} (h : tl_T z a = some 10) : tl_T z (a + 5) = some 15 := tl_Tcl (by decide +kernel) h
theorem tt_10_8 {z a : Nat} (h : tl_T z a = some 10) : tl_T z (a + 6) = some 16 := tl_Tcl (by decide +kernel) h
theorem ta_18 {z a j : Nat} (h : tl_T z a = some 18) (hj : j < 3) : tl_T z (a + (11 + j)) = some 1 := tl_TclJ (fun j => 11 + j) (by decide +kernel) h hj
theorem ta_19 {z a j : Nat} (h : tl_T z a = some 19) (hj : j < 6) : tl_T z (a + (13 + j)) = some 7 := tl_TclJ (fun j => 13 + j) (by decide +kernel) h hj
theorem ta_20 {z a j : Nat} (h : tl_T z a = some 20) (hj : j < 8) : tl_T z (a + (18 + j)) = some 4 := tl_TclJ (fun j => 18 + j) (by decide +kernel) h hj
theorem ta_22 {z a j : Nat} (h : tl_T z a = some 22) (hj : j < 14) : tl_T z (a + (1 + 29 * j)) = some 5 := tl_TclJ (fun j => 1 + 29 * j) (by decide +kernel) h hj
theorem ta_23 {z a j : Nat} (h : tl_T z a = some 23) (hj : j < 2) : tl_T z (a + (2 + 29 * j)) = some 5 := tl_TclJ (fun j => 2 + 29 * j) (by decide +kernel) h hj
theorem ta_21 {z a j : Nat} (h : tl_T z a = some 21) (hj : j < 6) : tl_T z (a + (1 + j)) = some 8 := tl_TclJ (fun j => 1 + j) (by decide +kernel) h hj
theorem ta_21b {z a b : Nat} (h : tl_T z a = some 21) (hb : a < b ∧ b < a + 7) : tl_T z b = some 8 := by
  have := ta_21 (j := b - a - 1) h (by omega)
  rwa [show a + (1 + (b - a - 1)) = b by omega] at this
theorem tl_inlt {i : Int32} {N : Nat} (h : vp_in i N) : i.toNatClampNeg < N := Nat.not_le.mp fun q => h (Or.inr q)
def tl_let {α β : Type} (v : α) (f : α → Option β) : Option β := f v
theorem tl_leteq {α β : Type} {v x : α} {f : α → Option β} {r : β} (hx : x = v) (h : tl_let v f = some r) : f x = some r := by subst hx; exact h
def tl_g {β : Type} (c : Prop) [Decidable c] (x : Option β) : Option β := if c then x else none
theorem tl_gi {β : Type} {c : Prop} [Decidable c] {x : Option β} {r : β} (h : tl_g c x = some r) : c ∧ x = some r := by
  unfold tl_g at h
  split at h
  · exact ⟨by assumption, h⟩
  · cases h
def tl_b {α β : Type} (o : Option α) (f : α → Option β) : Option β := match o with
  | some a => f a
  | none => none
theorem tl_bi {α β : Type} {o : Option α} {f : α → Option β} {r : β} (h : tl_b o f = some r) : ∃ a, o = some a ∧ f a = some r := by
  unfold tl_b at h
  split at h
  · exact ⟨_, rfl, h⟩
  · cases h
theorem tl_bs {α β : Type} {o : Option α} {f : α → Option β} {a : α} (h : o = some a) : tl_b o f = f a := by subst h; rfl
theorem tl_ip {α : Type} {c : Prop} [Decidable c] {x y : Option α} {r : α} (h : (if c then x else y) = some r) (hc : c) : x = some r := by rwa [if_pos hc] at h
theorem tl_in {α : Type} {c : Prop} [Decidable c] {x y : Option α} {r : α} (h : (if c then x else y) = some r) (hc : ¬ c) : y = some r := by rwa [if_neg hc] at h
/-- a place of an array -/
def tl_ix (i : Int32) (N : Nat) : Prop := ¬ (i < 0 ∨ N ≤ i.toNatClampNeg)
def tl_isB (x : Int32) : Prop := x = 0 ∨ x = 1
def tl_isC (x : Int32) : Prop := ¬ (x < 0 ∨ 65535 < x)
theorem tl_nB {x : Int32} (h : tl_isB x) : narrow .boolean (.int x) = .int x ∧ fits .boolean (.int x) = true := by
  rcases h with rfl | rfl <;> exact ⟨rfl, rfl⟩
theorem tl_nC {x : Int32} (h : tl_isC x) : narrow .char (.int x) = .int x := by
  obtain ⟨j, hj, rfl⟩ := nI_of (x := x) (fun q => h (Or.inl q))
  have h3 : ¬ nI 65535 < nI j := fun q => h (Or.inr q)
  have h4 : j ≤ 65535 := Nat.not_lt.mp (fun q => h3 ((nI_ltI (by omega) hj).mpr q))
  exact (pk_charN (by omega)).1
section TLD
variable {E : tl_E} {M N : tl_M} {X : State → Array Value → Code → Prop} {Z : List Frame → Array Value → State → State → Prop} {k n pc a : Nat} {u : tl_S} {ls : List (Option Value)} {st : List Value}
theorem tl_geti {K f i : Nat} {C : String} {T : u_T} {NN : Nat} {ty : Nat → FieldType} (ck : tl_ck K C T NN ty) (hd : decode M.2.1 pc = .ok (.getfield i, 3)) (hw : Cond.fieldLink M.1.cls i (T f).1 (T f).2.1 (T f).2.2.1 ∈ tl_GW) (hf : f < NN) (ho : tl_off K f = none) (hT : tl_T E.2.1 a = some K)
    (kk : tl_R E M X Z k n (tl_HB E u) (pc + 3) ls (.int (u.1 a f) :: st)) : tl_R E M X Z k n (tl_HB E u) pc ls (.ref a :: st) :=
  tl_getf ck hd hw hf hT (by unfold tl_fv; rw [ho]) kk
theorem tl_getr {K f i o : Nat} {C : String} {T : u_T} {NN : Nat} {ty : Nat → FieldType} (ck : tl_ck K C T NN ty) (hd : decode M.2.1 pc = .ok (.getfield i, 3)) (hw : Cond.fieldLink M.1.cls i (T f).1 (T f).2.1 (T f).2.2.1 ∈ tl_GW) (hf : f < NN) (ho : tl_off K f = some o) (hT : tl_T E.2.1 a = some K)
    (kk : tl_R E M X Z k n (tl_HB E u) (pc + 3) ls (.ref (a + o) :: st)) : tl_R E M X Z k n (tl_HB E u) pc ls (.ref a :: st) :=
  tl_getf ck hd hw hf hT (by unfold tl_fv; rw [ho]) kk
theorem tl_puti {K f i : Nat} {C : String} {T : u_T} {NN : Nat} {ty : Nat → FieldType} {x : Int32} (ck : tl_ck K C T NN ty) (hd : decode M.2.1 pc = .ok (.putfield i, 3)) (hw : Cond.fieldLink M.1.cls i (T f).1 (T f).2.1 (T f).2.2.1 ∈ tl_GW) (hf : f < NN) (hfin : (T f).2.2.2 = false) (ho : tl_off K f = none) (hty : ty f = .int) (hT : tl_T E.2.1 a = some K)
    (kk : ∀ v, v = (tl_u u.1 a f x, u.2) → tl_R E M X Z k n (tl_HB E v) (pc + 3) ls st) : tl_R E M X Z k n (tl_HB E u) pc ls (.int x :: .ref a :: st) :=
  tl_put ck hd hw hf hfin ho (by rw [hty]; rfl) (by rw [hty]; rfl) hT (kk _ rfl)
theorem tl_putz {K f i : Nat} {C : String} {T : u_T} {NN : Nat} {ty : Nat → FieldType} {x : Int32} (ck : tl_ck K C T NN ty) (hd : decode M.2.1 pc = .ok (.putfield i, 3)) (hw : Cond.fieldLink M.1.cls i (T f).1 (T f).2.1 (T f).2.2.1 ∈ tl_GW) (hf : f < NN) (hfin : (T f).2.2.2 = false) (ho : tl_off K f = none) (hty : ty f = .boolean) (hx : tl_isB x) (hT : tl_T E.2.1 a = some K)
    (kk : ∀ v, v = (tl_u u.1 a f x, u.2) → tl_R E M X Z k n (tl_HB E v) (pc + 3) ls st) : tl_R E M X Z k n (tl_HB E u) pc ls (.int x :: .ref a :: st) :=
  tl_put ck hd hw hf hfin ho (by rw [hty]; exact (tl_nB hx).1) (by rw [hty]; exact (tl_nB hx).2) hT (kk _ rfl)
theorem tl_iastK {K NN : Nat} {i x : Int32} (hce : ∀ (dA : Nat → ClassId) (u : tl_S), tl_ce dA K a u = .inl (dA 0, NN, .inl (u.1 a))) (hd : decode M.2.1 pc = .ok (.iastore, 1)) (hT : tl_T E.2.1 a = some K) (j : Nat) (hin : vp_in i NN) (hj : i.toNatClampNeg = j)
    (kk : ∀ v, v = (tl_u u.1 a j x, u.2) → tl_R E M X Z k n (tl_HB E v) (pc + 1) ls st) : tl_R E M X Z k n (tl_HB E u) pc ls (.int x :: .int i :: .ref a :: st) :=
  tl_iast hce hd hT hin hj (kk _ rfl)
theorem tl_castK {i x : Int32} (hd : decode M.2.1 pc = .ok (.castore, 1)) (hT : tl_T E.2.1 a = some 11) (j : Nat) (hin : vp_in i 120) (hj : i.toNatClampNeg = j) (hx : tl_isC x)
    (kk : ∀ v, v = (tl_u u.1 a j x, u.2) → tl_R E M X Z k n (tl_HB E v) (pc + 1) ls st) : tl_R E M X Z k n (tl_HB E u) pc ls (.int x :: .int i :: .ref a :: st) :=
  tl_cast (fun _ _ => rfl) hd hT hin hj (tl_nC hx) (kk _ rfl)
theorem tl_zastK {i x : Int32} (hd : decode M.2.1 pc = .ok (.bastore, 1)) (hT : tl_T E.2.1 a = some 16) (j : Nat) (hin : vp_in i 2) (hj : i.toNatClampNeg = j) (hx : tl_isB x)
    (kk : ∀ v, v = (tl_u u.1 a j x, u.2) → tl_R E M X Z k n (tl_HB E v) (pc + 1) ls st) : tl_R E M X Z k n (tl_HB E u) pc ls (.int x :: .int i :: .ref a :: st) :=
  tl_zast (fun _ _ => rfl) hd hT hin hj (tl_nB hx).1 (kk _ rfl)
theorem tl_aastK {i : Int32} {b : Nat} (hd : decode M.2.1 pc = .ok (.aastore, 1)) (hT : tl_T E.2.1 a = some 21) (j : Nat) (hTb : tl_T E.2.1 b = some 8) (hin : vp_in i 6) (hj : i.toNatClampNeg = j)
    (kk : ∀ v, v = (u.1, tl_uO u.2.1 a j b, u.2.2) → tl_R E M X Z k n (tl_HB E v) (pc + 1) ls st) : tl_R E M X Z k n (tl_HB E u) pc ls (.ref b :: .int i :: .ref a :: st) :=
  tl_aast hd hT hTb hin hj (kk _ rfl)
theorem tl_ald18 {i : Int32} (hd : decode M.2.1 pc = .ok (.aaload, 1)) (hT : tl_T E.2.1 a = some 18) (j : Nat) (hin : vp_in i 3) (hj : i.toNatClampNeg = j)
    (kk : tl_R E M X Z k n (tl_HB E u) (pc + 1) ls (.ref (a + (11 + j)) :: st)) : tl_R E M X Z k n (tl_HB E u) pc ls (.int i :: .ref a :: st) :=
  tl_aald (t := 4) (C := RX1) (f := fun _ j => some (a + 11 + j)) (fun _ _ => rfl) (fun _ => rfl) hd hT hin hj (by rw [Nat.add_assoc]) kk
theorem tl_ald19 {i : Int32} (hd : decode M.2.1 pc = .ok (.aaload, 1)) (hT : tl_T E.2.1 a = some 19) (j : Nat) (hin : vp_in i 6) (hj : i.toNatClampNeg = j)
    (kk : tl_R E M X Z k n (tl_HB E u) (pc + 1) ls (.ref (a + (13 + j)) :: st)) : tl_R E M X Z k n (tl_HB E u) pc ls (.int i :: .ref a :: st) :=
  tl_aald (t := 5) (C := RX7) (f := fun _ j => some (a + 13 + j)) (fun _ _ => rfl) (fun _ => rfl) hd hT hin hj (by rw [Nat.add_assoc]) kk
theorem tl_ald20 {i : Int32} (hd : decode M.2.1 pc = .ok (.aaload, 1)) (hT : tl_T E.2.1 a = some 20) (j : Nat) (hin : vp_in i 8) (hj : i.toNatClampNeg = j)
    (kk : tl_R E M X Z k n (tl_HB E u) (pc + 1) ls (.ref (a + (18 + j)) :: st)) : tl_R E M X Z k n (tl_HB E u) pc ls (.int i :: .ref a :: st) :=
  tl_aald (t := 6) (C := RX4) (f := fun _ j => some (a + 18 + j)) (fun _ _ => rfl) (fun _ => rfl) hd hT hin hj (by rw [Nat.add_assoc]) kk
theorem tl_ald22 {i : Int32} (hd : decode M.2.1 pc = .ok (.aaload, 1)) (hT : tl_T E.2.1 a = some 22) (j : Nat) (hin : vp_in i 14) (hj : i.toNatClampNeg = j)
    (kk : tl_R E M X Z k n (tl_HB E u) (pc + 1) ls (.ref (a + (1 + 29 * j)) :: st)) : tl_R E M X Z k n (tl_HB E u) pc ls (.int i :: .ref a :: st) :=
  tl_aald (t := 8) (C := RX5) (f := fun _ j => some (a + 1 + 29 * j)) (fun _ _ => rfl) (fun _ => rfl) hd hT hin hj (by rw [Nat.add_assoc]) kk
theorem tl_ald23 {i : Int32} (hd : decode M.2.1 pc = .ok (.aaload, 1)) (hT : tl_T E.2.1 a = some 23) (j : Nat) (hin : vp_in i 2) (hj : i.toNatClampNeg = j)
    (kk : tl_R E M X Z k n (tl_HB E u) (pc + 1) ls (.ref (a + (2 + 29 * j)) :: st)) : tl_R E M X Z k n (tl_HB E u) pc ls (.int i :: .ref a :: st) :=
  tl_aald (t := 8) (C := RX5) (f := fun _ j => some (a + 2 + 29 * j)) (fun _ _ => rfl) (fun _ => rfl) hd hT hin hj (by rw [Nat.add_assoc]) kk
theorem tl_ald21 {i : Int32} (hd : decode M.2.1 pc = .ok (.aaload, 1)) (hT : tl_T E.2.1 a = some 21) (j : Nat) (hin : vp_in i 6) (hj : i.toNatClampNeg = j)
    (kk : tl_R E M X Z k n (tl_HB E u) (pc + 1) ls (.ref (u.2.1 a j) :: st)) : tl_R E M X Z k n (tl_HB E u) pc ls (.int i :: .ref a :: st) :=
  tl_aald (t := 7) (C := RX8) (f := fun u j => some (u.2.1 a j)) (fun _ _ => rfl) (fun _ => rfl) hd hT hin hj rfl kk
theorem tl_isto_n {q : Fin 4} {x : Int32} (hd : decode M.2.1 pc = .ok (.istore_n q, 1)) (hi : (q : Nat) < M.2.2.1) (kk : ∀ y, y = x → tl_R E M X Z k n (tl_HB E u) (pc + 1) (tl_st ls (q : Nat) (.int y)) st) : tl_R E M X Z k n (tl_HB E u) pc ls (.int x :: st) := tl_istore_n hd hi (kk _ rfl)
theorem tl_isto {i : Nat} {x : Int32} (hd : decode M.2.1 pc = .ok (.istore i, 2)) (hi : i < M.2.2.1) (kk : ∀ y, y = x → tl_R E M X Z k n (tl_HB E u) (pc + 2) (tl_st ls i (.int y)) st) : tl_R E M X Z k n (tl_HB E u) pc ls (.int x :: st) := tl_istore hd hi (kk _ rfl)
theorem tl_lsto_n {q : Fin 4} {x : Int64} (hd : decode M.2.1 pc = .ok (.lstore_n q, 1)) (hi : (q : Nat) + 1 < M.2.2.1) (kk : ∀ y, y = x → tl_R E M X Z k n (tl_HB E u) (pc + 1) (tl_st (tl_cl ls ((q : Nat) + 1)) (q : Nat) (.long y)) st) : tl_R E M X Z k n (tl_HB E u) pc ls (.long x :: st) := tl_lstore_n hd hi (kk _ rfl)
theorem tl_lsto {i : Nat} {x : Int64} (hd : decode M.2.1 pc = .ok (.lstore i, 2)) (hi : i + 1 < M.2.2.1) (kk : ∀ y, y = x → tl_R E M X Z k n (tl_HB E u) (pc + 2) (tl_st (tl_cl ls (i + 1)) i (.long y)) st) : tl_R E M X Z k n (tl_HB E u) pc ls (.long x :: st) := tl_lstore hd hi (kk _ rfl)
theorem tl_iincK {i : Nat} {q : Int} {x v : Int32} (hd : decode M.2.1 pc = .ok (.iinc i q, 3)) (hl : tl_ld ls i = some (.int x)) (hv : x + Int32.ofInt q = v) (hi : i < M.2.2.1) (kk : ∀ y, y = v → tl_R E M X Z k n (tl_HB E u) (pc + 3) (tl_st ls i (.int y)) st) : tl_R E M X Z k n (tl_HB E u) pc ls st := tl_iinc hd hl hv hi (kk _ rfl)
theorem tl_iretE {x r : Int32} {v : tl_S} {ty : FieldType} (hd : decode M.2.1 pc = .ok (.ireturn, 1)) (hr : M.2.2.2.1 = some ty) (hn : narrow ty (.int x) = .int x) (h : (some (x, u) : Option (Int32 × tl_S)) = some (r, v)) : tl_R E M X (tl_ZB E M (fun q w => q = some (.int r) ∧ w = v)) 0 0 (tl_HB E u) pc ls [.int x] := by
  cases h
  exact tl_iretB hd hr hn (Nat.zero_le _) (Nat.zero_le _) ⟨rfl, rfl⟩
theorem tl_lretE {x r : Int64} {v : tl_S} (hd : decode M.2.1 pc = .ok (.lreturn, 1)) (hr : M.2.2.2.1 = some .long) (h : (some (x, u) : Option (Int64 × tl_S)) = some (r, v)) : tl_R E M X (tl_ZB E M (fun q w => q = some (.long r) ∧ w = v)) 0 0 (tl_HB E u) pc ls [.long x] := by
  cases h
  exact tl_lretB hd hr (Nat.zero_le _) (Nat.zero_le _) ⟨rfl, rfl⟩
theorem tl_vretE {v : tl_S} (hd : decode M.2.1 pc = .ok (.return_, 1)) (hr : M.2.2.2.1 = none) (h : (some u : Option tl_S) = some v) : tl_R E M X (tl_ZB E M (fun q w => q = none ∧ w = v)) 0 0 (tl_HB E u) pc ls [] := by
  cases h
  exact tl_vretB hd hr (Nat.zero_le _) (Nat.zero_le _) ⟨rfl, rfl⟩
theorem tl_iS0 {i : Nat} {x : Int32} {v : tl_S} (hN : tl_MB E N [] u (fun r w => r = some (.int x) ∧ w = v)) (hd : decode M.2.1 pc = .ok (.invokestatic i, 3)) (hc : tl_cS M N i 0) (h0 : N.2.2.2.2.cells = 0 ∧ N.2.2.2.2.slots = 0) (hk : k ≤ M.2.2.2.2.cells ∧ n ≤ M.2.2.2.2.slots) (hr : (st.map fun v => v.category).sum ≤ 8)
    (kk : tl_R E M X Z k n (tl_HB E v) (pc + 3) ls (.int x :: st)) : tl_R E M X Z k n (tl_HB E u) pc ls (st) :=
  tl_callS0 hN hd hc (by rw [h0.1, h0.2]; exact hk) hr (fun r w q => by obtain ⟨e1, e2⟩ := q; subst e1; subst e2; rw [h0.1, h0.2]; exact kk)
theorem tl_iN0 {i : Nat} {x : Int32} {v : tl_S} (hN : tl_MB E N [] u (fun r w => r = some (.int x) ∧ w = v)) (hd : decode M.2.1 pc = .ok (.invokestatic i, 3)) (hc : tl_cN M N i 0) (h0 : N.2.2.2.2.cells = 0 ∧ N.2.2.2.2.slots = 0) (hk : k ≤ M.2.2.2.2.cells ∧ n ≤ M.2.2.2.2.slots) (hr : (st.map fun v => v.category).sum ≤ 8)
    (kk : tl_R E M X Z k n (tl_HB E v) (pc + 3) ls (.int x :: st)) : tl_R E M X Z k n (tl_HB E u) pc ls (st) :=
  tl_callN0 hN hd hc (by rw [h0.1, h0.2]; exact hk) hr (fun r w q => by obtain ⟨e1, e2⟩ := q; subst e1; subst e2; rw [h0.1, h0.2]; exact kk)
theorem tl_iV0 {i o K : Nat} {x : Int32} {v : tl_S} {C : String} {T : u_T} {NN : Nat} {ty : Nat → FieldType} (ck : tl_ck K C T NN ty) (hC : N.1.cls = C) (hT : tl_T E.2.1 o = some K) (hN : tl_MB E N (.ref o :: []) u (fun r w => r = some (.int x) ∧ w = v)) (hd : decode M.2.1 pc = .ok (.invokevirtual i, 3)) (hc : tl_cV M N i 0) (h0 : N.2.2.2.2.cells = 0 ∧ N.2.2.2.2.slots = 0) (hk : k ≤ M.2.2.2.2.cells ∧ n ≤ M.2.2.2.2.slots) (hr : (st.map fun v => v.category).sum ≤ 8)
    (kk : tl_R E M X Z k n (tl_HB E v) (pc + 3) ls (.int x :: st)) : tl_R E M X Z k n (tl_HB E u) pc ls (.ref o :: st) :=
  tl_callV0 ck hC hT hN hd hc (by rw [h0.1, h0.2]; exact hk) hr (fun r w q => by obtain ⟨e1, e2⟩ := q; subst e1; subst e2; rw [h0.1, h0.2]; exact kk)
theorem tl_lS0 {i : Nat} {x : Int64} {v : tl_S} (hN : tl_MB E N [] u (fun r w => r = some (.long x) ∧ w = v)) (hd : decode M.2.1 pc = .ok (.invokestatic i, 3)) (hc : tl_cS M N i 0) (h0 : N.2.2.2.2.cells = 0 ∧ N.2.2.2.2.slots = 0) (hk : k ≤ M.2.2.2.2.cells ∧ n ≤ M.2.2.2.2.slots) (hr : (st.map fun v => v.category).sum ≤ 8)
    (kk : tl_R E M X Z k n (tl_HB E v) (pc + 3) ls (.long x :: st)) : tl_R E M X Z k n (tl_HB E u) pc ls (st) :=
  tl_callS0 hN hd hc (by rw [h0.1, h0.2]; exact hk) hr (fun r w q => by obtain ⟨e1, e2⟩ := q; subst e1; subst e2; rw [h0.1, h0.2]; exact kk)
theorem tl_lN0 {i : Nat} {x : Int64} {v : tl_S} (hN : tl_MB E N [] u (fun r w => r = some (.long x) ∧ w = v)) (hd : decode M.2.1 pc = .ok (.invokestatic i, 3)) (hc : tl_cN M N i 0) (h0 : N.2.2.2.2.cells = 0 ∧ N.2.2.2.2.slots = 0) (hk : k ≤ M.2.2.2.2.cells ∧ n ≤ M.2.2.2.2.slots) (hr : (st.map fun v => v.category).sum ≤ 8)
    (kk : tl_R E M X Z k n (tl_HB E v) (pc + 3) ls (.long x :: st)) : tl_R E M X Z k n (tl_HB E u) pc ls (st) :=
  tl_callN0 hN hd hc (by rw [h0.1, h0.2]; exact hk) hr (fun r w q => by obtain ⟨e1, e2⟩ := q; subst e1; subst e2; rw [h0.1, h0.2]; exact kk)
theorem tl_lV0 {i o K : Nat} {x : Int64} {v : tl_S} {C : String} {T : u_T} {NN : Nat} {ty : Nat → FieldType} (ck : tl_ck K C T NN ty) (hC : N.1.cls = C) (hT : tl_T E.2.1 o = some K) (hN : tl_MB E N (.ref o :: []) u (fun r w => r = some (.long x) ∧ w = v)) (hd : decode M.2.1 pc = .ok (.invokevirtual i, 3)) (hc : tl_cV M N i 0) (h0 : N.2.2.2.2.cells = 0 ∧ N.2.2.2.2.slots = 0) (hk : k ≤ M.2.2.2.2.cells ∧ n ≤ M.2.2.2.2.slots) (hr : (st.map fun v => v.category).sum ≤ 8)
    (kk : tl_R E M X Z k n (tl_HB E v) (pc + 3) ls (.long x :: st)) : tl_R E M X Z k n (tl_HB E u) pc ls (.ref o :: st) :=
  tl_callV0 ck hC hT hN hd hc (by rw [h0.1, h0.2]; exact hk) hr (fun r w q => by obtain ⟨e1, e2⟩ := q; subst e1; subst e2; rw [h0.1, h0.2]; exact kk)
theorem tl_vS0 {i : Nat} {v : tl_S} (hN : tl_MB E N [] u (fun r w => r = none ∧ w = v)) (hd : decode M.2.1 pc = .ok (.invokestatic i, 3)) (hc : tl_cS M N i 0) (h0 : N.2.2.2.2.cells = 0 ∧ N.2.2.2.2.slots = 0) (hk : k ≤ M.2.2.2.2.cells ∧ n ≤ M.2.2.2.2.slots) (hr : (st.map fun v => v.category).sum ≤ 8)
    (kk : tl_R E M X Z k n (tl_HB E v) (pc + 3) ls (st)) : tl_R E M X Z k n (tl_HB E u) pc ls (st) :=
  tl_callS0 hN hd hc (by rw [h0.1, h0.2]; exact hk) hr (fun r w q => by obtain ⟨e1, e2⟩ := q; subst e1; subst e2; rw [h0.1, h0.2]; exact kk)
theorem tl_vN0 {i : Nat} {v : tl_S} (hN : tl_MB E N [] u (fun r w => r = none ∧ w = v)) (hd : decode M.2.1 pc = .ok (.invokestatic i, 3)) (hc : tl_cN M N i 0) (h0 : N.2.2.2.2.cells = 0 ∧ N.2.2.2.2.slots = 0) (hk : k ≤ M.2.2.2.2.cells ∧ n ≤ M.2.2.2.2.slots) (hr : (st.map fun v => v.category).sum ≤ 8)
    (kk : tl_R E M X Z k n (tl_HB E v) (pc + 3) ls (st)) : tl_R E M X Z k n (tl_HB E u) pc ls (st) :=
  tl_callN0 hN hd hc (by rw [h0.1, h0.2]; exact hk) hr (fun r w q => by obtain ⟨e1, e2⟩ := q; subst e1; subst e2; rw [h0.1, h0.2]; exact kk)
theorem tl_vV0 {i o K : Nat} {v : tl_S} {C : String} {T : u_T} {NN : Nat} {ty : Nat → FieldType} (ck : tl_ck K C T NN ty) (hC : N.1.cls = C) (hT : tl_T E.2.1 o = some K) (hN : tl_MB E N (.ref o :: []) u (fun r w => r = none ∧ w = v)) (hd : decode M.2.1 pc = .ok (.invokevirtual i, 3)) (hc : tl_cV M N i 0) (h0 : N.2.2.2.2.cells = 0 ∧ N.2.2.2.2.slots = 0) (hk : k ≤ M.2.2.2.2.cells ∧ n ≤ M.2.2.2.2.slots) (hr : (st.map fun v => v.category).sum ≤ 8)
    (kk : tl_R E M X Z k n (tl_HB E v) (pc + 3) ls (st)) : tl_R E M X Z k n (tl_HB E u) pc ls (.ref o :: st) :=
  tl_callV0 ck hC hT hN hd hc (by rw [h0.1, h0.2]; exact hk) hr (fun r w q => by obtain ⟨e1, e2⟩ := q; subst e1; subst e2; rw [h0.1, h0.2]; exact kk)
theorem tl_iS1 {a0 : Value} {i : Nat} {x : Int32} {v : tl_S} (hN : tl_MB E N [a0] u (fun r w => r = some (.int x) ∧ w = v)) (hd : decode M.2.1 pc = .ok (.invokestatic i, 3)) (hc : tl_cS M N i 1) (h0 : N.2.2.2.2.cells = 0 ∧ N.2.2.2.2.slots = 0) (hk : k ≤ M.2.2.2.2.cells ∧ n ≤ M.2.2.2.2.slots) (hr : (st.map fun v => v.category).sum ≤ 8)
    (kk : tl_R E M X Z k n (tl_HB E v) (pc + 3) ls (.int x :: st)) : tl_R E M X Z k n (tl_HB E u) pc ls (a0 :: st) :=
  tl_callS1 hN hd hc (by rw [h0.1, h0.2]; exact hk) hr (fun r w q => by obtain ⟨e1, e2⟩ := q; subst e1; subst e2; rw [h0.1, h0.2]; exact kk)
theorem tl_iN1 {a0 : Value} {i : Nat} {x : Int32} {v : tl_S} (hN : tl_MB E N [a0] u (fun r w => r = some (.int x) ∧ w = v)) (hd : decode M.2.1 pc = .ok (.invokestatic i, 3)) (hc : tl_cN M N i 1) (h0 : N.2.2.2.2.cells = 0 ∧ N.2.2.2.2.slots = 0) (hk : k ≤ M.2.2.2.2.cells ∧ n ≤ M.2.2.2.2.slots) (hr : (st.map fun v => v.category).sum ≤ 8)
    (kk : tl_R E M X Z k n (tl_HB E v) (pc + 3) ls (.int x :: st)) : tl_R E M X Z k n (tl_HB E u) pc ls (a0 :: st) :=
  tl_callN1 hN hd hc (by rw [h0.1, h0.2]; exact hk) hr (fun r w q => by obtain ⟨e1, e2⟩ := q; subst e1; subst e2; rw [h0.1, h0.2]; exact kk)
theorem tl_iV1 {a0 : Value} {i o K : Nat} {x : Int32} {v : tl_S} {C : String} {T : u_T} {NN : Nat} {ty : Nat → FieldType} (ck : tl_ck K C T NN ty) (hC : N.1.cls = C) (hT : tl_T E.2.1 o = some K) (hN : tl_MB E N (.ref o :: [a0]) u (fun r w => r = some (.int x) ∧ w = v)) (hd : decode M.2.1 pc = .ok (.invokevirtual i, 3)) (hc : tl_cV M N i 1) (h0 : N.2.2.2.2.cells = 0 ∧ N.2.2.2.2.slots = 0) (hk : k ≤ M.2.2.2.2.cells ∧ n ≤ M.2.2.2.2.slots) (hr : (st.map fun v => v.category).sum ≤ 8)
    (kk : tl_R E M X Z k n (tl_HB E v) (pc + 3) ls (.int x :: st)) : tl_R E M X Z k n (tl_HB E u) pc ls (a0 :: .ref o :: st) :=
  tl_callV1 ck hC hT hN hd hc (by rw [h0.1, h0.2]; exact hk) hr (fun r w q => by obtain ⟨e1, e2⟩ := q; subst e1; subst e2; rw [h0.1, h0.2]; exact kk)
theorem tl_lS1 {a0 : Value} {i : Nat} {x : Int64} {v : tl_S} (hN : tl_MB E N [a0] u (fun r w => r = some (.long x) ∧ w = v)) (hd : decode M.2.1 pc = .ok (.invokestatic i, 3)) (hc : tl_cS M N i 1) (h0 : N.2.2.2.2.cells = 0 ∧ N.2.2.2.2.slots = 0) (hk : k ≤ M.2.2.2.2.cells ∧ n ≤ M.2.2.2.2.slots) (hr : (st.map fun v => v.category).sum ≤ 8)
    (kk : tl_R E M X Z k n (tl_HB E v) (pc + 3) ls (.long x :: st)) : tl_R E M X Z k n (tl_HB E u) pc ls (a0 :: st) :=
  tl_callS1 hN hd hc (by rw [h0.1, h0.2]; exact hk) hr (fun r w q => by obtain ⟨e1, e2⟩ := q; subst e1; subst e2; rw [h0.1, h0.2]; exact kk)
theorem tl_lN1 {a0 : Value} {i : Nat} {x : Int64} {v : tl_S} (hN : tl_MB E N [a0] u (fun r w => r = some (.long x) ∧ w = v)) (hd : decode M.2.1 pc = .ok (.invokestatic i, 3)) (hc : tl_cN M N i 1) (h0 : N.2.2.2.2.cells = 0 ∧ N.2.2.2.2.slots = 0) (hk : k ≤ M.2.2.2.2.cells ∧ n ≤ M.2.2.2.2.slots) (hr : (st.map fun v => v.category).sum ≤ 8)
    (kk : tl_R E M X Z k n (tl_HB E v) (pc + 3) ls (.long x :: st)) : tl_R E M X Z k n (tl_HB E u) pc ls (a0 :: st) :=
  tl_callN1 hN hd hc (by rw [h0.1, h0.2]; exact hk) hr (fun r w q => by obtain ⟨e1, e2⟩ := q; subst e1; subst e2; rw [h0.1, h0.2]; exact kk)
theorem tl_lV1 {a0 : Value} {i o K : Nat} {x : Int64} {v : tl_S} {C : String} {T : u_T} {NN : Nat} {ty : Nat → FieldType} (ck : tl_ck K C T NN ty) (hC : N.1.cls = C) (hT : tl_T E.2.1 o = some K) (hN : tl_MB E N (.ref o :: [a0]) u (fun r w => r = some (.long x) ∧ w = v)) (hd : decode M.2.1 pc = .ok (.invokevirtual i, 3)) (hc : tl_cV M N i 1) (h0 : N.2.2.2.2.cells = 0 ∧ N.2.2.2.2.slots = 0) (hk : k ≤ M.2.2.2.2.cells ∧ n ≤ M.2.2.2.2.slots) (hr : (st.map fun v => v.category).sum ≤ 8)
    (kk : tl_R E M X Z k n (tl_HB E v) (pc + 3) ls (.long x :: st)) : tl_R E M X Z k n (tl_HB E u) pc ls (a0 :: .ref o :: st) :=
  tl_callV1 ck hC hT hN hd hc (by rw [h0.1, h0.2]; exact hk) hr (fun r w q => by obtain ⟨e1, e2⟩ := q; subst e1; subst e2; rw [h0.1, h0.2]; exact kk)
theorem tl_vS1 {a0 : Value} {i : Nat} {v : tl_S} (hN : tl_MB E N [a0] u (fun r w => r = none ∧ w = v)) (hd : decode M.2.1 pc = .ok (.invokestatic i, 3)) (hc : tl_cS M N i 1) (h0 : N.2.2.2.2.cells = 0 ∧ N.2.2.2.2.slots = 0) (hk : k ≤ M.2.2.2.2.cells ∧ n ≤ M.2.2.2.2.slots) (hr : (st.map fun v => v.category).sum ≤ 8)
    (kk : tl_R E M X Z k n (tl_HB E v) (pc + 3) ls (st)) : tl_R E M X Z k n (tl_HB E u) pc ls (a0 :: st) :=
  tl_callS1 hN hd hc (by rw [h0.1, h0.2]; exact hk) hr (fun r w q => by obtain ⟨e1, e2⟩ := q; subst e1; subst e2; rw [h0.1, h0.2]; exact kk)
theorem tl_vN1 {a0 : Value} {i : Nat} {v : tl_S} (hN : tl_MB E N [a0] u (fun r w => r = none ∧ w = v)) (hd : decode M.2.1 pc = .ok (.invokestatic i, 3)) (hc : tl_cN M N i 1) (h0 : N.2.2.2.2.cells = 0 ∧ N.2.2.2.2.slots = 0) (hk : k ≤ M.2.2.2.2.cells ∧ n ≤ M.2.2.2.2.slots) (hr : (st.map fun v => v.category).sum ≤ 8)
    (kk : tl_R E M X Z k n (tl_HB E v) (pc + 3) ls (st)) : tl_R E M X Z k n (tl_HB E u) pc ls (a0 :: st) :=
  tl_callN1 hN hd hc (by rw [h0.1, h0.2]; exact hk) hr (fun r w q => by obtain ⟨e1, e2⟩ := q; subst e1; subst e2; rw [h0.1, h0.2]; exact kk)
theorem tl_vV1 {a0 : Value} {i o K : Nat} {v : tl_S} {C : String} {T : u_T} {NN : Nat} {ty : Nat → FieldType} (ck : tl_ck K C T NN ty) (hC : N.1.cls = C) (hT : tl_T E.2.1 o = some K) (hN : tl_MB E N (.ref o :: [a0]) u (fun r w => r = none ∧ w = v)) (hd : decode M.2.1 pc = .ok (.invokevirtual i, 3)) (hc : tl_cV M N i 1) (h0 : N.2.2.2.2.cells = 0 ∧ N.2.2.2.2.slots = 0) (hk : k ≤ M.2.2.2.2.cells ∧ n ≤ M.2.2.2.2.slots) (hr : (st.map fun v => v.category).sum ≤ 8)
    (kk : tl_R E M X Z k n (tl_HB E v) (pc + 3) ls (st)) : tl_R E M X Z k n (tl_HB E u) pc ls (a0 :: .ref o :: st) :=
  tl_callV1 ck hC hT hN hd hc (by rw [h0.1, h0.2]; exact hk) hr (fun r w q => by obtain ⟨e1, e2⟩ := q; subst e1; subst e2; rw [h0.1, h0.2]; exact kk)
theorem tl_iS2 {a0 b0 : Value} {i : Nat} {x : Int32} {v : tl_S} (hN : tl_MB E N [a0, b0] u (fun r w => r = some (.int x) ∧ w = v)) (hd : decode M.2.1 pc = .ok (.invokestatic i, 3)) (hc : tl_cS M N i 2) (h0 : N.2.2.2.2.cells = 0 ∧ N.2.2.2.2.slots = 0) (hk : k ≤ M.2.2.2.2.cells ∧ n ≤ M.2.2.2.2.slots) (hr : (st.map fun v => v.category).sum ≤ 8)
    (kk : tl_R E M X Z k n (tl_HB E v) (pc + 3) ls (.int x :: st)) : tl_R E M X Z k n (tl_HB E u) pc ls (b0 :: a0 :: st) :=
  tl_callS2 hN hd hc (by rw [h0.1, h0.2]; exact hk) hr (fun r w q => by obtain ⟨e1, e2⟩ := q; subst e1; subst e2; rw [h0.1, h0.2]; exact kk)
theorem tl_iN2 {a0 b0 : Value} {i : Nat} {x : Int32} {v : tl_S} (hN : tl_MB E N [a0, b0] u (fun r w => r = some (.int x) ∧ w = v)) (hd : decode M.2.1 pc = .ok (.invokestatic i, 3)) (hc : tl_cN M N i 2) (h0 : N.2.2.2.2.cells = 0 ∧ N.2.2.2.2.slots = 0) (hk : k ≤ M.2.2.2.2.cells ∧ n ≤ M.2.2.2.2.slots) (hr : (st.map fun v => v.category).sum ≤ 8)
    (kk : tl_R E M X Z k n (tl_HB E v) (pc + 3) ls (.int x :: st)) : tl_R E M X Z k n (tl_HB E u) pc ls (b0 :: a0 :: st) :=
  tl_callN2 hN hd hc (by rw [h0.1, h0.2]; exact hk) hr (fun r w q => by obtain ⟨e1, e2⟩ := q; subst e1; subst e2; rw [h0.1, h0.2]; exact kk)
theorem tl_iV2 {a0 b0 : Value} {i o K : Nat} {x : Int32} {v : tl_S} {C : String} {T : u_T} {NN : Nat} {ty : Nat → FieldType} (ck : tl_ck K C T NN ty) (hC : N.1.cls = C) (hT : tl_T E.2.1 o = some K) (hN : tl_MB E N (.ref o :: [a0, b0]) u (fun r w => r = some (.int x) ∧ w = v)) (hd : decode M.2.1 pc = .ok (.invokevirtual i, 3)) (hc : tl_cV M N i 2) (h0 : N.2.2.2.2.cells = 0 ∧ N.2.2.2.2.slots = 0) (hk : k ≤ M.2.2.2.2.cells ∧ n ≤ M.2.2.2.2.slots) (hr : (st.map fun v => v.category).sum ≤ 8)
    (kk : tl_R E M X Z k n (tl_HB E v) (pc + 3) ls (.int x :: st)) : tl_R E M X Z k n (tl_HB E u) pc ls (b0 :: a0 :: .ref o :: st) :=
  tl_callV2 ck hC hT hN hd hc (by rw [h0.1, h0.2]; exact hk) hr (fun r w q => by obtain ⟨e1, e2⟩ := q; subst e1; subst e2; rw [h0.1, h0.2]; exact kk)
theorem tl_lS2 {a0 b0 : Value} {i : Nat} {x : Int64} {v : tl_S} (hN : tl_MB E N [a0, b0] u (fun r w => r = some (.long x) ∧ w = v)) (hd : decode M.2.1 pc = .ok (.invokestatic i, 3)) (hc : tl_cS M N i 2) (h0 : N.2.2.2.2.cells = 0 ∧ N.2.2.2.2.slots = 0) (hk : k ≤ M.2.2.2.2.cells ∧ n ≤ M.2.2.2.2.slots) (hr : (st.map fun v => v.category).sum ≤ 8)
    (kk : tl_R E M X Z k n (tl_HB E v) (pc + 3) ls (.long x :: st)) : tl_R E M X Z k n (tl_HB E u) pc ls (b0 :: a0 :: st) :=
  tl_callS2 hN hd hc (by rw [h0.1, h0.2]; exact hk) hr (fun r w q => by obtain ⟨e1, e2⟩ := q; subst e1; subst e2; rw [h0.1, h0.2]; exact kk)
theorem tl_lN2 {a0 b0 : Value} {i : Nat} {x : Int64} {v : tl_S} (hN : tl_MB E N [a0, b0] u (fun r w => r = some (.long x) ∧ w = v)) (hd : decode M.2.1 pc = .ok (.invokestatic i, 3)) (hc : tl_cN M N i 2) (h0 : N.2.2.2.2.cells = 0 ∧ N.2.2.2.2.slots = 0) (hk : k ≤ M.2.2.2.2.cells ∧ n ≤ M.2.2.2.2.slots) (hr : (st.map fun v => v.category).sum ≤ 8)
    (kk : tl_R E M X Z k n (tl_HB E v) (pc + 3) ls (.long x :: st)) : tl_R E M X Z k n (tl_HB E u) pc ls (b0 :: a0 :: st) :=
  tl_callN2 hN hd hc (by rw [h0.1, h0.2]; exact hk) hr (fun r w q => by obtain ⟨e1, e2⟩ := q; subst e1; subst e2; rw [h0.1, h0.2]; exact kk)
theorem tl_lV2 {a0 b0 : Value} {i o K : Nat} {x : Int64} {v : tl_S} {C : String} {T : u_T} {NN : Nat} {ty : Nat → FieldType} (ck : tl_ck K C T NN ty) (hC : N.1.cls = C) (hT : tl_T E.2.1 o = some K) (hN : tl_MB E N (.ref o :: [a0, b0]) u (fun r w => r = some (.long x) ∧ w = v)) (hd : decode M.2.1 pc = .ok (.invokevirtual i, 3)) (hc : tl_cV M N i 2) (h0 : N.2.2.2.2.cells = 0 ∧ N.2.2.2.2.slots = 0) (hk : k ≤ M.2.2.2.2.cells ∧ n ≤ M.2.2.2.2.slots) (hr : (st.map fun v => v.category).sum ≤ 8)
    (kk : tl_R E M X Z k n (tl_HB E v) (pc + 3) ls (.long x :: st)) : tl_R E M X Z k n (tl_HB E u) pc ls (b0 :: a0 :: .ref o :: st) :=
  tl_callV2 ck hC hT hN hd hc (by rw [h0.1, h0.2]; exact hk) hr (fun r w q => by obtain ⟨e1, e2⟩ := q; subst e1; subst e2; rw [h0.1, h0.2]; exact kk)
theorem tl_vS2 {a0 b0 : Value} {i : Nat} {v : tl_S} (hN : tl_MB E N [a0, b0] u (fun r w => r = none ∧ w = v)) (hd : decode M.2.1 pc = .ok (.invokestatic i, 3)) (hc : tl_cS M N i 2) (h0 : N.2.2.2.2.cells = 0 ∧ N.2.2.2.2.slots = 0) (hk : k ≤ M.2.2.2.2.cells ∧ n ≤ M.2.2.2.2.slots) (hr : (st.map fun v => v.category).sum ≤ 8)
    (kk : tl_R E M X Z k n (tl_HB E v) (pc + 3) ls (st)) : tl_R E M X Z k n (tl_HB E u) pc ls (b0 :: a0 :: st) :=
  tl_callS2 hN hd hc (by rw [h0.1, h0.2]; exact hk) hr (fun r w q => by obtain ⟨e1, e2⟩ := q; subst e1; subst e2; rw [h0.1, h0.2]; exact kk)
theorem tl_vN2 {a0 b0 : Value} {i : Nat} {v : tl_S} (hN : tl_MB E N [a0, b0] u (fun r w => r = none ∧ w = v)) (hd : decode M.2.1 pc = .ok (.invokestatic i, 3)) (hc : tl_cN M N i 2) (h0 : N.2.2.2.2.cells = 0 ∧ N.2.2.2.2.slots = 0) (hk : k ≤ M.2.2.2.2.cells ∧ n ≤ M.2.2.2.2.slots) (hr : (st.map fun v => v.category).sum ≤ 8)
    (kk : tl_R E M X Z k n (tl_HB E v) (pc + 3) ls (st)) : tl_R E M X Z k n (tl_HB E u) pc ls (b0 :: a0 :: st) :=
  tl_callN2 hN hd hc (by rw [h0.1, h0.2]; exact hk) hr (fun r w q => by obtain ⟨e1, e2⟩ := q; subst e1; subst e2; rw [h0.1, h0.2]; exact kk)
theorem tl_vV2 {a0 b0 : Value} {i o K : Nat} {v : tl_S} {C : String} {T : u_T} {NN : Nat} {ty : Nat → FieldType} (ck : tl_ck K C T NN ty) (hC : N.1.cls = C) (hT : tl_T E.2.1 o = some K) (hN : tl_MB E N (.ref o :: [a0, b0]) u (fun r w => r = none ∧ w = v)) (hd : decode M.2.1 pc = .ok (.invokevirtual i, 3)) (hc : tl_cV M N i 2) (h0 : N.2.2.2.2.cells = 0 ∧ N.2.2.2.2.slots = 0) (hk : k ≤ M.2.2.2.2.cells ∧ n ≤ M.2.2.2.2.slots) (hr : (st.map fun v => v.category).sum ≤ 8)
    (kk : tl_R E M X Z k n (tl_HB E v) (pc + 3) ls (st)) : tl_R E M X Z k n (tl_HB E u) pc ls (b0 :: a0 :: .ref o :: st) :=
  tl_callV2 ck hC hT hN hd hc (by rw [h0.1, h0.2]; exact hk) hr (fun r w q => by obtain ⟨e1, e2⟩ := q; subst e1; subst e2; rw [h0.1, h0.2]; exact kk)
theorem tl_iS3 {a0 b0 c0 : Value} {i : Nat} {x : Int32} {v : tl_S} (hN : tl_MB E N [a0, b0, c0] u (fun r w => r = some (.int x) ∧ w = v)) (hd : decode M.2.1 pc = .ok (.invokestatic i, 3)) (hc : tl_cS M N i 3) (h0 : N.2.2.2.2.cells = 0 ∧ N.2.2.2.2.slots = 0) (hk : k ≤ M.2.2.2.2.cells ∧ n ≤ M.2.2.2.2.slots) (hr : (st.map fun v => v.category).sum ≤ 8)
    (kk : tl_R E M X Z k n (tl_HB E v) (pc + 3) ls (.int x :: st)) : tl_R E M X Z k n (tl_HB E u) pc ls (c0 :: b0 :: a0 :: st) :=
  tl_callS3 hN hd hc (by rw [h0.1, h0.2]; exact hk) hr (fun r w q => by obtain ⟨e1, e2⟩ := q; subst e1; subst e2; rw [h0.1, h0.2]; exact kk)
theorem tl_iN3 {a0 b0 c0 : Value} {i : Nat} {x : Int32} {v : tl_S} (hN : tl_MB E N [a0, b0, c0] u (fun r w => r = some (.int x) ∧ w = v)) (hd : decode M.2.1 pc = .ok (.invokestatic i, 3)) (hc : tl_cN M N i 3) (h0 : N.2.2.2.2.cells = 0 ∧ N.2.2.2.2.slots = 0) (hk : k ≤ M.2.2.2.2.cells ∧ n ≤ M.2.2.2.2.slots) (hr : (st.map fun v => v.category).sum ≤ 8)
    (kk : tl_R E M X Z k n (tl_HB E v) (pc + 3) ls (.int x :: st)) : tl_R E M X Z k n (tl_HB E u) pc ls (c0 :: b0 :: a0 :: st) :=
  tl_callN3 hN hd hc (by rw [h0.1, h0.2]; exact hk) hr (fun r w q => by obtain ⟨e1, e2⟩ := q; subst e1; subst e2; rw [h0.1, h0.2]; exact kk)
theorem tl_iV3 {a0 b0 c0 : Value} {i o K : Nat} {x : Int32} {v : tl_S} {C : String} {T : u_T} {NN : Nat} {ty : Nat → FieldType} (ck : tl_ck K C T NN ty) (hC : N.1.cls = C) (hT : tl_T E.2.1 o = some K) (hN : tl_MB E N (.ref o :: [a0, b0, c0]) u (fun r w => r = some (.int x) ∧ w = v)) (hd : decode M.2.1 pc = .ok (.invokevirtual i, 3)) (hc : tl_cV M N i 3) (h0 : N.2.2.2.2.cells = 0 ∧ N.2.2.2.2.slots = 0) (hk : k ≤ M.2.2.2.2.cells ∧ n ≤ M.2.2.2.2.slots) (hr : (st.map fun v => v.category).sum ≤ 8)
    (kk : tl_R E M X Z k n (tl_HB E v) (pc + 3) ls (.int x :: st)) : tl_R E M X Z k n (tl_HB E u) pc ls (c0 :: b0 :: a0 :: .ref o :: st) :=
  tl_callV3 ck hC hT hN hd hc (by rw [h0.1, h0.2]; exact hk) hr (fun r w q => by obtain ⟨e1, e2⟩ := q; subst e1; subst e2; rw [h0.1, h0.2]; exact kk)
theorem tl_lS3 {a0 b0 c0 : Value} {i : Nat} {x : Int64} {v : tl_S} (hN : tl_MB E N [a0, b0, c0] u (fun r w => r = some (.long x) ∧ w = v)) (hd : decode M.2.1 pc = .ok (.invokestatic i, 3)) (hc : tl_cS M N i 3) (h0 : N.2.2.2.2.cells = 0 ∧ N.2.2.2.2.slots = 0) (hk : k ≤ M.2.2.2.2.cells ∧ n ≤ M.2.2.2.2.slots) (hr : (st.map fun v => v.category).sum ≤ 8)
    (kk : tl_R E M X Z k n (tl_HB E v) (pc + 3) ls (.long x :: st)) : tl_R E M X Z k n (tl_HB E u) pc ls (c0 :: b0 :: a0 :: st) :=
  tl_callS3 hN hd hc (by rw [h0.1, h0.2]; exact hk) hr (fun r w q => by obtain ⟨e1, e2⟩ := q; subst e1; subst e2; rw [h0.1, h0.2]; exact kk)
theorem tl_lN3 {a0 b0 c0 : Value} {i : Nat} {x : Int64} {v : tl_S} (hN : tl_MB E N [a0, b0, c0] u (fun r w => r = some (.long x) ∧ w = v)) (hd : decode M.2.1 pc = .ok (.invokestatic i, 3)) (hc : tl_cN M N i 3) (h0 : N.2.2.2.2.cells = 0 ∧ N.2.2.2.2.slots = 0) (hk : k ≤ M.2.2.2.2.cells ∧ n ≤ M.2.2.2.2.slots) (hr : (st.map fun v => v.category).sum ≤ 8)
    (kk : tl_R E M X Z k n (tl_HB E v) (pc + 3) ls (.long x :: st)) : tl_R E M X Z k n (tl_HB E u) pc ls (c0 :: b0 :: a0 :: st) :=
  tl_callN3 hN hd hc (by rw [h0.1, h0.2]; exact hk) hr (fun r w q => by obtain ⟨e1, e2⟩ := q; subst e1; subst e2; rw [h0.1, h0.2]; exact kk)
theorem tl_lV3 {a0 b0 c0 : Value} {i o K : Nat} {x : Int64} {v : tl_S} {C : String} {T : u_T} {NN : Nat} {ty : Nat → FieldType} (ck : tl_ck K C T NN ty) (hC : N.1.cls = C) (hT : tl_T E.2.1 o = some K) (hN : tl_MB E N (.ref o :: [a0, b0, c0]) u (fun r w => r = some (.long x) ∧ w = v)) (hd : decode M.2.1 pc = .ok (.invokevirtual i, 3)) (hc : tl_cV M N i 3) (h0 : N.2.2.2.2.cells = 0 ∧ N.2.2.2.2.slots = 0) (hk : k ≤ M.2.2.2.2.cells ∧ n ≤ M.2.2.2.2.slots) (hr : (st.map fun v => v.category).sum ≤ 8)
    (kk : tl_R E M X Z k n (tl_HB E v) (pc + 3) ls (.long x :: st)) : tl_R E M X Z k n (tl_HB E u) pc ls (c0 :: b0 :: a0 :: .ref o :: st) :=
  tl_callV3 ck hC hT hN hd hc (by rw [h0.1, h0.2]; exact hk) hr (fun r w q => by obtain ⟨e1, e2⟩ := q; subst e1; subst e2; rw [h0.1, h0.2]; exact kk)
theorem tl_vS3 {a0 b0 c0 : Value} {i : Nat} {v : tl_S} (hN : tl_MB E N [a0, b0, c0] u (fun r w => r = none ∧ w = v)) (hd : decode M.2.1 pc = .ok (.invokestatic i, 3)) (hc : tl_cS M N i 3) (h0 : N.2.2.2.2.cells = 0 ∧ N.2.2.2.2.slots = 0) (hk : k ≤ M.2.2.2.2.cells ∧ n ≤ M.2.2.2.2.slots) (hr : (st.map fun v => v.category).sum ≤ 8)
    (kk : tl_R E M X Z k n (tl_HB E v) (pc + 3) ls (st)) : tl_R E M X Z k n (tl_HB E u) pc ls (c0 :: b0 :: a0 :: st) :=
  tl_callS3 hN hd hc (by rw [h0.1, h0.2]; exact hk) hr (fun r w q => by obtain ⟨e1, e2⟩ := q; subst e1; subst e2; rw [h0.1, h0.2]; exact kk)
theorem tl_vN3 {a0 b0 c0 : Value} {i : Nat} {v : tl_S} (hN : tl_MB E N [a0, b0, c0] u (fun r w => r = none ∧ w = v)) (hd : decode M.2.1 pc = .ok (.invokestatic i, 3)) (hc : tl_cN M N i 3) (h0 : N.2.2.2.2.cells = 0 ∧ N.2.2.2.2.slots = 0) (hk : k ≤ M.2.2.2.2.cells ∧ n ≤ M.2.2.2.2.slots) (hr : (st.map fun v => v.category).sum ≤ 8)
    (kk : tl_R E M X Z k n (tl_HB E v) (pc + 3) ls (st)) : tl_R E M X Z k n (tl_HB E u) pc ls (c0 :: b0 :: a0 :: st) :=
  tl_callN3 hN hd hc (by rw [h0.1, h0.2]; exact hk) hr (fun r w q => by obtain ⟨e1, e2⟩ := q; subst e1; subst e2; rw [h0.1, h0.2]; exact kk)
theorem tl_vV3 {a0 b0 c0 : Value} {i o K : Nat} {v : tl_S} {C : String} {T : u_T} {NN : Nat} {ty : Nat → FieldType} (ck : tl_ck K C T NN ty) (hC : N.1.cls = C) (hT : tl_T E.2.1 o = some K) (hN : tl_MB E N (.ref o :: [a0, b0, c0]) u (fun r w => r = none ∧ w = v)) (hd : decode M.2.1 pc = .ok (.invokevirtual i, 3)) (hc : tl_cV M N i 3) (h0 : N.2.2.2.2.cells = 0 ∧ N.2.2.2.2.slots = 0) (hk : k ≤ M.2.2.2.2.cells ∧ n ≤ M.2.2.2.2.slots) (hr : (st.map fun v => v.category).sum ≤ 8)
    (kk : tl_R E M X Z k n (tl_HB E v) (pc + 3) ls (st)) : tl_R E M X Z k n (tl_HB E u) pc ls (c0 :: b0 :: a0 :: .ref o :: st) :=
  tl_callV3 ck hC hT hN hd hc (by rw [h0.1, h0.2]; exact hk) hr (fun r w q => by obtain ⟨e1, e2⟩ := q; subst e1; subst e2; rw [h0.1, h0.2]; exact kk)
theorem tl_iS4 {a0 b0 c0 d0 : Value} {i : Nat} {x : Int32} {v : tl_S} (hN : tl_MB E N [a0, b0, c0, d0] u (fun r w => r = some (.int x) ∧ w = v)) (hd : decode M.2.1 pc = .ok (.invokestatic i, 3)) (hc : tl_cS M N i 4) (h0 : N.2.2.2.2.cells = 0 ∧ N.2.2.2.2.slots = 0) (hk : k ≤ M.2.2.2.2.cells ∧ n ≤ M.2.2.2.2.slots) (hr : (st.map fun v => v.category).sum ≤ 8)
    (kk : tl_R E M X Z k n (tl_HB E v) (pc + 3) ls (.int x :: st)) : tl_R E M X Z k n (tl_HB E u) pc ls (d0 :: c0 :: b0 :: a0 :: st) :=
  tl_callS4 hN hd hc (by rw [h0.1, h0.2]; exact hk) hr (fun r w q => by obtain ⟨e1, e2⟩ := q; subst e1; subst e2; rw [h0.1, h0.2]; exact kk)
theorem tl_iN4 {a0 b0 c0 d0 : Value} {i : Nat} {x : Int32} {v : tl_S} (hN : tl_MB E N [a0, b0, c0, d0] u (fun r w => r = some (.int x) ∧ w = v)) (hd : decode M.2.1 pc = .ok (.invokestatic i, 3)) (hc : tl_cN M N i 4) (h0 : N.2.2.2.2.cells = 0 ∧ N.2.2.2.2.slots = 0) (hk : k ≤ M.2.2.2.2.cells ∧ n ≤ M.2.2.2.2.slots) (hr : (st.map fun v => v.category).sum ≤ 8)
    (kk : tl_R E M X Z k n (tl_HB E v) (pc + 3) ls (.int x :: st)) : tl_R E M X Z k n (tl_HB E u) pc ls (d0 :: c0 :: b0 :: a0 :: st) :=
  tl_callN4 hN hd hc (by rw [h0.1, h0.2]; exact hk) hr (fun r w q => by obtain ⟨e1, e2⟩ := q; subst e1; subst e2; rw [h0.1, h0.2]; exact kk)
theorem tl_iV4 {a0 b0 c0 d0 : Value} {i o K : Nat} {x : Int32} {v : tl_S} {C : String} {T : u_T} {NN : Nat} {ty : Nat → FieldType} (ck : tl_ck K C T NN ty) (hC : N.1.cls = C) (hT : tl_T E.2.1 o = some K) (hN : tl_MB E N (.ref o :: [a0, b0, c0, d0]) u (fun r w => r = some (.int x) ∧ w = v)) (hd : decode M.2.1 pc = .ok (.invokevirtual i, 3)) (hc : tl_cV M N i 4) (h0 : N.2.2.2.2.cells = 0 ∧ N.2.2.2.2.slots = 0) (hk : k ≤ M.2.2.2.2.cells ∧ n ≤ M.2.2.2.2.slots) (hr : (st.map fun v => v.category).sum ≤ 8)
    (kk : tl_R E M X Z k n (tl_HB E v) (pc + 3) ls (.int x :: st)) : tl_R E M X Z k n (tl_HB E u) pc ls (d0 :: c0 :: b0 :: a0 :: .ref o :: st) :=
  tl_callV4 ck hC hT hN hd hc (by rw [h0.1, h0.2]; exact hk) hr (fun r w q => by obtain ⟨e1, e2⟩ := q; subst e1; subst e2; rw [h0.1, h0.2]; exact kk)
theorem tl_lS4 {a0 b0 c0 d0 : Value} {i : Nat} {x : Int64} {v : tl_S} (hN : tl_MB E N [a0, b0, c0, d0] u (fun r w => r = some (.long x) ∧ w = v)) (hd : decode M.2.1 pc = .ok (.invokestatic i, 3)) (hc : tl_cS M N i 4) (h0 : N.2.2.2.2.cells = 0 ∧ N.2.2.2.2.slots = 0) (hk : k ≤ M.2.2.2.2.cells ∧ n ≤ M.2.2.2.2.slots) (hr : (st.map fun v => v.category).sum ≤ 8)
    (kk : tl_R E M X Z k n (tl_HB E v) (pc + 3) ls (.long x :: st)) : tl_R E M X Z k n (tl_HB E u) pc ls (d0 :: c0 :: b0 :: a0 :: st) :=
  tl_callS4 hN hd hc (by rw [h0.1, h0.2]; exact hk) hr (fun r w q => by obtain ⟨e1, e2⟩ := q; subst e1; subst e2; rw [h0.1, h0.2]; exact kk)
theorem tl_lN4 {a0 b0 c0 d0 : Value} {i : Nat} {x : Int64} {v : tl_S} (hN : tl_MB E N [a0, b0, c0, d0] u (fun r w => r = some (.long x) ∧ w = v)) (hd : decode M.2.1 pc = .ok (.invokestatic i, 3)) (hc : tl_cN M N i 4) (h0 : N.2.2.2.2.cells = 0 ∧ N.2.2.2.2.slots = 0) (hk : k ≤ M.2.2.2.2.cells ∧ n ≤ M.2.2.2.2.slots) (hr : (st.map fun v => v.category).sum ≤ 8)
    (kk : tl_R E M X Z k n (tl_HB E v) (pc + 3) ls (.long x :: st)) : tl_R E M X Z k n (tl_HB E u) pc ls (d0 :: c0 :: b0 :: a0 :: st) :=
  tl_callN4 hN hd hc (by rw [h0.1, h0.2]; exact hk) hr (fun r w q => by obtain ⟨e1, e2⟩ := q; subst e1; subst e2; rw [h0.1, h0.2]; exact kk)
theorem tl_lV4 {a0 b0 c0 d0 : Value} {i o K : Nat} {x : Int64} {v : tl_S} {C : String} {T : u_T} {NN : Nat} {ty : Nat → FieldType} (ck : tl_ck K C T NN ty) (hC : N.1.cls = C) (hT : tl_T E.2.1 o = some K) (hN : tl_MB E N (.ref o :: [a0, b0, c0, d0]) u (fun r w => r = some (.long x) ∧ w = v)) (hd : decode M.2.1 pc = .ok (.invokevirtual i, 3)) (hc : tl_cV M N i 4) (h0 : N.2.2.2.2.cells = 0 ∧ N.2.2.2.2.slots = 0) (hk : k ≤ M.2.2.2.2.cells ∧ n ≤ M.2.2.2.2.slots) (hr : (st.map fun v => v.category).sum ≤ 8)
    (kk : tl_R E M X Z k n (tl_HB E v) (pc + 3) ls (.long x :: st)) : tl_R E M X Z k n (tl_HB E u) pc ls (d0 :: c0 :: b0 :: a0 :: .ref o :: st) :=
  tl_callV4 ck hC hT hN hd hc (by rw [h0.1, h0.2]; exact hk) hr (fun r w q => by obtain ⟨e1, e2⟩ := q; subst e1; subst e2; rw [h0.1, h0.2]; exact kk)
theorem tl_vS4 {a0 b0 c0 d0 : Value} {i : Nat} {v : tl_S} (hN : tl_MB E N [a0, b0, c0, d0] u (fun r w => r = none ∧ w = v)) (hd : decode M.2.1 pc = .ok (.invokestatic i, 3)) (hc : tl_cS M N i 4) (h0 : N.2.2.2.2.cells = 0 ∧ N.2.2.2.2.slots = 0) (hk : k ≤ M.2.2.2.2.cells ∧ n ≤ M.2.2.2.2.slots) (hr : (st.map fun v => v.category).sum ≤ 8)
    (kk : tl_R E M X Z k n (tl_HB E v) (pc + 3) ls (st)) : tl_R E M X Z k n (tl_HB E u) pc ls (d0 :: c0 :: b0 :: a0 :: st) :=
  tl_callS4 hN hd hc (by rw [h0.1, h0.2]; exact hk) hr (fun r w q => by obtain ⟨e1, e2⟩ := q; subst e1; subst e2; rw [h0.1, h0.2]; exact kk)
theorem tl_vN4 {a0 b0 c0 d0 : Value} {i : Nat} {v : tl_S} (hN : tl_MB E N [a0, b0, c0, d0] u (fun r w => r = none ∧ w = v)) (hd : decode M.2.1 pc = .ok (.invokestatic i, 3)) (hc : tl_cN M N i 4) (h0 : N.2.2.2.2.cells = 0 ∧ N.2.2.2.2.slots = 0) (hk : k ≤ M.2.2.2.2.cells ∧ n ≤ M.2.2.2.2.slots) (hr : (st.map fun v => v.category).sum ≤ 8)
    (kk : tl_R E M X Z k n (tl_HB E v) (pc + 3) ls (st)) : tl_R E M X Z k n (tl_HB E u) pc ls (d0 :: c0 :: b0 :: a0 :: st) :=
  tl_callN4 hN hd hc (by rw [h0.1, h0.2]; exact hk) hr (fun r w q => by obtain ⟨e1, e2⟩ := q; subst e1; subst e2; rw [h0.1, h0.2]; exact kk)
theorem tl_vV4 {a0 b0 c0 d0 : Value} {i o K : Nat} {v : tl_S} {C : String} {T : u_T} {NN : Nat} {ty : Nat → FieldType} (ck : tl_ck K C T NN ty) (hC : N.1.cls = C) (hT : tl_T E.2.1 o = some K) (hN : tl_MB E N (.ref o :: [a0, b0, c0, d0]) u (fun r w => r = none ∧ w = v)) (hd : decode M.2.1 pc = .ok (.invokevirtual i, 3)) (hc : tl_cV M N i 4) (h0 : N.2.2.2.2.cells = 0 ∧ N.2.2.2.2.slots = 0) (hk : k ≤ M.2.2.2.2.cells ∧ n ≤ M.2.2.2.2.slots) (hr : (st.map fun v => v.category).sum ≤ 8)
    (kk : tl_R E M X Z k n (tl_HB E v) (pc + 3) ls (st)) : tl_R E M X Z k n (tl_HB E u) pc ls (d0 :: c0 :: b0 :: a0 :: .ref o :: st) :=
  tl_callV4 ck hC hT hN hd hc (by rw [h0.1, h0.2]; exact hk) hr (fun r w q => by obtain ⟨e1, e2⟩ := q; subst e1; subst e2; rw [h0.1, h0.2]; exact kk)
theorem tl_iS5 {a0 b0 c0 d0 e0 : Value} {i : Nat} {x : Int32} {v : tl_S} (hN : tl_MB E N [a0, b0, c0, d0, e0] u (fun r w => r = some (.int x) ∧ w = v)) (hd : decode M.2.1 pc = .ok (.invokestatic i, 3)) (hc : tl_cS M N i 5) (h0 : N.2.2.2.2.cells = 0 ∧ N.2.2.2.2.slots = 0) (hk : k ≤ M.2.2.2.2.cells ∧ n ≤ M.2.2.2.2.slots) (hr : (st.map fun v => v.category).sum ≤ 8)
    (kk : tl_R E M X Z k n (tl_HB E v) (pc + 3) ls (.int x :: st)) : tl_R E M X Z k n (tl_HB E u) pc ls (e0 :: d0 :: c0 :: b0 :: a0 :: st) :=
  tl_callS5 hN hd hc (by rw [h0.1, h0.2]; exact hk) hr (fun r w q => by obtain ⟨e1, e2⟩ := q; subst e1; subst e2; rw [h0.1, h0.2]; exact kk)
theorem tl_iN5 {a0 b0 c0 d0 e0 : Value} {i : Nat} {x : Int32} {v : tl_S} (hN : tl_MB E N [a0, b0, c0, d0, e0] u (fun r w => r = some (.int x) ∧ w = v)) (hd : decode M.2.1 pc = .ok (.invokestatic i, 3)) (hc : tl_cN M N i 5) (h0 : N.2.2.2.2.cells = 0 ∧ N.2.2.2.2.slots = 0) (hk : k ≤ M.2.2.2.2.cells ∧ n ≤ M.2.2.2.2.slots) (hr : (st.map fun v => v.category).sum ≤ 8)
    (kk : tl_R E M X Z k n (tl_HB E v) (pc + 3) ls (.int x :: st)) : tl_R E M X Z k n (tl_HB E u) pc ls (e0 :: d0 :: c0 :: b0 :: a0 :: st) :=
  tl_callN5 hN hd hc (by rw [h0.1, h0.2]; exact hk) hr (fun r w q => by obtain ⟨e1, e2⟩ := q; subst e1; subst e2; rw [h0.1, h0.2]; exact kk)
theorem tl_iV5 {a0 b0 c0 d0 e0 : Value} {i o K : Nat} {x : Int32} {v : tl_S} {C : String} {T : u_T} {NN : Nat} {ty : Nat → FieldType} (ck : tl_ck K C T NN ty) (hC : N.1.cls = C) (hT : tl_T E.2.1 o = some K) (hN : tl_MB E N (.ref o :: [a0, b0, c0, d0, e0]) u (fun r w => r = some (.int x) ∧ w = v)) (hd : decode M.2.1 pc = .ok (.invokevirtual i, 3)) (hc : tl_cV M N i 5) (h0 : N.2.2.2.2.cells = 0 ∧ N.2.2.2.2.slots = 0) (hk : k ≤ M.2.2.2.2.cells ∧ n ≤ M.2.2.2.2.slots) (hr : (st.map fun v => v.category).sum ≤ 8)
    (kk : tl_R E M X Z k n (tl_HB E v) (pc + 3) ls (.int x :: st)) : tl_R E M X Z k n (tl_HB E u) pc ls (e0 :: d0 :: c0 :: b0 :: a0 :: .ref o :: st) :=
  tl_callV5 ck hC hT hN hd hc (by rw [h0.1, h0.2]; exact hk) hr (fun r w q => by obtain ⟨e1, e2⟩ := q; subst e1; subst e2; rw [h0.1, h0.2]; exact kk)
theorem tl_lS5 {a0 b0 c0 d0 e0 : Value} {i : Nat} {x : Int64} {v : tl_S} (hN : tl_MB E N [a0, b0, c0, d0, e0] u (fun r w => r = some (.long x) ∧ w = v)) (hd : decode M.2.1 pc = .ok (.invokestatic i, 3)) (hc : tl_cS M N i 5) (h0 : N.2.2.2.2.cells = 0 ∧ N.2.2.2.2.slots = 0) (hk : k ≤ M.2.2.2.2.cells ∧ n ≤ M.2.2.2.2.slots) (hr : (st.map fun v => v.category).sum ≤ 8)
    (kk : tl_R E M X Z k n (tl_HB E v) (pc + 3) ls (.long x :: st)) : tl_R E M X Z k n (tl_HB E u) pc ls (e0 :: d0 :: c0 :: b0 :: a0 :: st) :=
  tl_callS5 hN hd hc (by rw [h0.1, h0.2]; exact hk) hr (fun r w q => by obtain ⟨e1, e2⟩ := q; subst e1; subst e2; rw [h0.1, h0.2]; exact kk)
theorem tl_lN5 {a0 b0 c0 d0 e0 : Value} {i : Nat} {x : Int64} {v : tl_S} (hN : tl_MB E N [a0, b0, c0, d0, e0] u (fun r w => r = some (.long x) ∧ w = v)) (hd : decode M.2.1 pc = .ok (.invokestatic i, 3)) (hc : tl_cN M N i 5) (h0 : N.2.2.2.2.cells = 0 ∧ N.2.2.2.2.slots = 0) (hk : k ≤ M.2.2.2.2.cells ∧ n ≤ M.2.2.2.2.slots) (hr : (st.map fun v => v.category).sum ≤ 8)
    (kk : tl_R E M X Z k n (tl_HB E v) (pc + 3) ls (.long x :: st)) : tl_R E M X Z k n (tl_HB E u) pc ls (e0 :: d0 :: c0 :: b0 :: a0 :: st) :=
  tl_callN5 hN hd hc (by rw [h0.1, h0.2]; exact hk) hr (fun r w q => by obtain ⟨e1, e2⟩ := q; subst e1; subst e2; rw [h0.1, h0.2]; exact kk)
theorem tl_lV5 {a0 b0 c0 d0 e0 : Value} {i o K : Nat} {x : Int64} {v : tl_S} {C : String} {T : u_T} {NN : Nat} {ty : Nat → FieldType} (ck : tl_ck K C T NN ty) (hC : N.1.cls = C) (hT : tl_T E.2.1 o = some K) (hN : tl_MB E N (.ref o :: [a0, b0, c0, d0, e0]) u (fun r w => r = some (.long x) ∧ w = v)) (hd : decode M.2.1 pc = .ok (.invokevirtual i, 3)) (hc : tl_cV M N i 5) (h0 : N.2.2.2.2.cells = 0 ∧ N.2.2.2.2.slots = 0) (hk : k ≤ M.2.2.2.2.cells ∧ n ≤ M.2.2.2.2.slots) (hr : (st.map fun v => v.category).sum ≤ 8)
    (kk : tl_R E M X Z k n (tl_HB E v) (pc + 3) ls (.long x :: st)) : tl_R E M X Z k n (tl_HB E u) pc ls (e0 :: d0 :: c0 :: b0 :: a0 :: .ref o :: st) :=
  tl_callV5 ck hC hT hN hd hc (by rw [h0.1, h0.2]; exact hk) hr (fun r w q => by obtain ⟨e1, e2⟩ := q; subst e1; subst e2; rw [h0.1, h0.2]; exact kk)
theorem tl_vS5 {a0 b0 c0 d0 e0 : Value} {i : Nat} {v : tl_S} (hN : tl_MB E N [a0, b0, c0, d0, e0] u (fun r w => r = none ∧ w = v)) (hd : decode M.2.1 pc = .ok (.invokestatic i, 3)) (hc : tl_cS M N i 5) (h0 : N.2.2.2.2.cells = 0 ∧ N.2.2.2.2.slots = 0) (hk : k ≤ M.2.2.2.2.cells ∧ n ≤ M.2.2.2.2.slots) (hr : (st.map fun v => v.category).sum ≤ 8)
    (kk : tl_R E M X Z k n (tl_HB E v) (pc + 3) ls (st)) : tl_R E M X Z k n (tl_HB E u) pc ls (e0 :: d0 :: c0 :: b0 :: a0 :: st) :=
  tl_callS5 hN hd hc (by rw [h0.1, h0.2]; exact hk) hr (fun r w q => by obtain ⟨e1, e2⟩ := q; subst e1; subst e2; rw [h0.1, h0.2]; exact kk)
theorem tl_vN5 {a0 b0 c0 d0 e0 : Value} {i : Nat} {v : tl_S} (hN : tl_MB E N [a0, b0, c0, d0, e0] u (fun r w => r = none ∧ w = v)) (hd : decode M.2.1 pc = .ok (.invokestatic i, 3)) (hc : tl_cN M N i 5) (h0 : N.2.2.2.2.cells = 0 ∧ N.2.2.2.2.slots = 0) (hk : k ≤ M.2.2.2.2.cells ∧ n ≤ M.2.2.2.2.slots) (hr : (st.map fun v => v.category).sum ≤ 8)
    (kk : tl_R E M X Z k n (tl_HB E v) (pc + 3) ls (st)) : tl_R E M X Z k n (tl_HB E u) pc ls (e0 :: d0 :: c0 :: b0 :: a0 :: st) :=
  tl_callN5 hN hd hc (by rw [h0.1, h0.2]; exact hk) hr (fun r w q => by obtain ⟨e1, e2⟩ := q; subst e1; subst e2; rw [h0.1, h0.2]; exact kk)
theorem tl_vV5 {a0 b0 c0 d0 e0 : Value} {i o K : Nat} {v : tl_S} {C : String} {T : u_T} {NN : Nat} {ty : Nat → FieldType} (ck : tl_ck K C T NN ty) (hC : N.1.cls = C) (hT : tl_T E.2.1 o = some K) (hN : tl_MB E N (.ref o :: [a0, b0, c0, d0, e0]) u (fun r w => r = none ∧ w = v)) (hd : decode M.2.1 pc = .ok (.invokevirtual i, 3)) (hc : tl_cV M N i 5) (h0 : N.2.2.2.2.cells = 0 ∧ N.2.2.2.2.slots = 0) (hk : k ≤ M.2.2.2.2.cells ∧ n ≤ M.2.2.2.2.slots) (hr : (st.map fun v => v.category).sum ≤ 8)
    (kk : tl_R E M X Z k n (tl_HB E v) (pc + 3) ls (st)) : tl_R E M X Z k n (tl_HB E u) pc ls (e0 :: d0 :: c0 :: b0 :: a0 :: .ref o :: st) :=
  tl_callV5 ck hC hT hN hd hc (by rw [h0.1, h0.2]; exact hk) hr (fun r w q => by obtain ⟨e1, e2⟩ := q; subst e1; subst e2; rw [h0.1, h0.2]; exact kk)
theorem tl_iS6 {a0 b0 c0 d0 e0 f0 : Value} {i : Nat} {x : Int32} {v : tl_S} (hN : tl_MB E N [a0, b0, c0, d0, e0, f0] u (fun r w => r = some (.int x) ∧ w = v)) (hd : decode M.2.1 pc = .ok (.invokestatic i, 3)) (hc : tl_cS M N i 6) (h0 : N.2.2.2.2.cells = 0 ∧ N.2.2.2.2.slots = 0) (hk : k ≤ M.2.2.2.2.cells ∧ n ≤ M.2.2.2.2.slots) (hr : (st.map fun v => v.category).sum ≤ 8)
    (kk : tl_R E M X Z k n (tl_HB E v) (pc + 3) ls (.int x :: st)) : tl_R E M X Z k n (tl_HB E u) pc ls (f0 :: e0 :: d0 :: c0 :: b0 :: a0 :: st) :=
  tl_callS6 hN hd hc (by rw [h0.1, h0.2]; exact hk) hr (fun r w q => by obtain ⟨e1, e2⟩ := q; subst e1; subst e2; rw [h0.1, h0.2]; exact kk)
theorem tl_iN6 {a0 b0 c0 d0 e0 f0 : Value} {i : Nat} {x : Int32} {v : tl_S} (hN : tl_MB E N [a0, b0, c0, d0, e0, f0] u (fun r w => r = some (.int x) ∧ w = v)) (hd : decode M.2.1 pc = .ok (.invokestatic i, 3)) (hc : tl_cN M N i 6) (h0 : N.2.2.2.2.cells = 0 ∧ N.2.2.2.2.slots = 0) (hk : k ≤ M.2.2.2.2.cells ∧ n ≤ M.2.2.2.2.slots) (hr : (st.map fun v => v.category).sum ≤ 8)
    (kk : tl_R E M X Z k n (tl_HB E v) (pc + 3) ls (.int x :: st)) : tl_R E M X Z k n (tl_HB E u) pc ls (f0 :: e0 :: d0 :: c0 :: b0 :: a0 :: st) :=
  tl_callN6 hN hd hc (by rw [h0.1, h0.2]; exact hk) hr (fun r w q => by obtain ⟨e1, e2⟩ := q; subst e1; subst e2; rw [h0.1, h0.2]; exact kk)
theorem tl_iV6 {a0 b0 c0 d0 e0 f0 : Value} {i o K : Nat} {x : Int32} {v : tl_S} {C : String} {T : u_T} {NN : Nat} {ty : Nat → FieldType} (ck : tl_ck K C T NN ty) (hC : N.1.cls = C) (hT : tl_T E.2.1 o = some K) (hN : tl_MB E N (.ref o :: [a0, b0, c0, d0, e0, f0]) u (fun r w => r = some (.int x) ∧ w = v)) (hd : decode M.2.1 pc = .ok (.invokevirtual i, 3)) (hc : tl_cV M N i 6) (h0 : N.2.2.2.2.cells = 0 ∧ N.2.2.2.2.slots = 0) (hk : k ≤ M.2.2.2.2.cells ∧ n ≤ M.2.2.2.2.slots) (hr : (st.map fun v => v.category).sum ≤ 8)
    (kk : tl_R E M X Z k n (tl_HB E v) (pc + 3) ls (.int x :: st)) : tl_R E M X Z k n (tl_HB E u) pc ls (f0 :: e0 :: d0 :: c0 :: b0 :: a0 :: .ref o :: st) :=
  tl_callV6 ck hC hT hN hd hc (by rw [h0.1, h0.2]; exact hk) hr (fun r w q => by obtain ⟨e1, e2⟩ := q; subst e1; subst e2; rw [h0.1, h0.2]; exact kk)
theorem tl_lS6 {a0 b0 c0 d0 e0 f0 : Value} {i : Nat} {x : Int64} {v : tl_S} (hN : tl_MB E N [a0, b0, c0, d0, e0, f0] u (fun r w => r = some (.long x) ∧ w = v)) (hd : decode M.2.1 pc = .ok (.invokestatic i, 3)) (hc : tl_cS M N i 6) (h0 : N.2.2.2.2.cells = 0 ∧ N.2.2.2.2.slots = 0) (hk : k ≤ M.2.2.2.2.cells ∧ n ≤ M.2.2.2.2.slots) (hr : (st.map fun v => v.category).sum ≤ 8)
    (kk : tl_R E M X Z k n (tl_HB E v) (pc + 3) ls (.long x :: st)) : tl_R E M X Z k n (tl_HB E u) pc ls (f0 :: e0 :: d0 :: c0 :: b0 :: a0 :: st) :=
  tl_callS6 hN hd hc (by rw [h0.1, h0.2]; exact hk) hr (fun r w q => by obtain ⟨e1, e2⟩ := q; subst e1; subst e2; rw [h0.1, h0.2]; exact kk)
theorem tl_lN6 {a0 b0 c0 d0 e0 f0 : Value} {i : Nat} {x : Int64} {v : tl_S} (hN : tl_MB E N [a0, b0, c0, d0, e0, f0] u (fun r w => r = some (.long x) ∧ w = v)) (hd : decode M.2.1 pc = .ok (.invokestatic i, 3)) (hc : tl_cN M N i 6) (h0 : N.2.2.2.2.cells = 0 ∧ N.2.2.2.2.slots = 0) (hk : k ≤ M.2.2.2.2.cells ∧ n ≤ M.2.2.2.2.slots) (hr : (st.map fun v => v.category).sum ≤ 8)
    (kk : tl_R E M X Z k n (tl_HB E v) (pc + 3) ls (.long x :: st)) : tl_R E M X Z k n (tl_HB E u) pc ls (f0 :: e0 :: d0 :: c0 :: b0 :: a0 :: st) :=
  tl_callN6 hN hd hc (by rw [h0.1, h0.2]; exact hk) hr (fun r w q => by obtain ⟨e1, e2⟩ := q; subst e1; subst e2; rw [h0.1, h0.2]; exact kk)
theorem tl_lV6 {a0 b0 c0 d0 e0 f0 : Value} {i o K : Nat} {x : Int64} {v : tl_S} {C : String} {T : u_T} {NN : Nat} {ty : Nat → FieldType} (ck : tl_ck K C T NN ty) (hC : N.1.cls = C) (hT : tl_T E.2.1 o = some K) (hN : tl_MB E N (.ref o :: [a0, b0, c0, d0, e0, f0]) u (fun r w => r = some (.long x) ∧ w = v)) (hd : decode M.2.1 pc = .ok (.invokevirtual i, 3)) (hc : tl_cV M N i 6) (h0 : N.2.2.2.2.cells = 0 ∧ N.2.2.2.2.slots = 0) (hk : k ≤ M.2.2.2.2.cells ∧ n ≤ M.2.2.2.2.slots) (hr : (st.map fun v => v.category).sum ≤ 8)
    (kk : tl_R E M X Z k n (tl_HB E v) (pc + 3) ls (.long x :: st)) : tl_R E M X Z k n (tl_HB E u) pc ls (f0 :: e0 :: d0 :: c0 :: b0 :: a0 :: .ref o :: st) :=
  tl_callV6 ck hC hT hN hd hc (by rw [h0.1, h0.2]; exact hk) hr (fun r w q => by obtain ⟨e1, e2⟩ := q; subst e1; subst e2; rw [h0.1, h0.2]; exact kk)
theorem tl_vS6 {a0 b0 c0 d0 e0 f0 : Value} {i : Nat} {v : tl_S} (hN : tl_MB E N [a0, b0, c0, d0, e0, f0] u (fun r w => r = none ∧ w = v)) (hd : decode M.2.1 pc = .ok (.invokestatic i, 3)) (hc : tl_cS M N i 6) (h0 : N.2.2.2.2.cells = 0 ∧ N.2.2.2.2.slots = 0) (hk : k ≤ M.2.2.2.2.cells ∧ n ≤ M.2.2.2.2.slots) (hr : (st.map fun v => v.category).sum ≤ 8)
    (kk : tl_R E M X Z k n (tl_HB E v) (pc + 3) ls (st)) : tl_R E M X Z k n (tl_HB E u) pc ls (f0 :: e0 :: d0 :: c0 :: b0 :: a0 :: st) :=
  tl_callS6 hN hd hc (by rw [h0.1, h0.2]; exact hk) hr (fun r w q => by obtain ⟨e1, e2⟩ := q; subst e1; subst e2; rw [h0.1, h0.2]; exact kk)
theorem tl_vN6 {a0 b0 c0 d0 e0 f0 : Value} {i : Nat} {v : tl_S} (hN : tl_MB E N [a0, b0, c0, d0, e0, f0] u (fun r w => r = none ∧ w = v)) (hd : decode M.2.1 pc = .ok (.invokestatic i, 3)) (hc : tl_cN M N i 6) (h0 : N.2.2.2.2.cells = 0 ∧ N.2.2.2.2.slots = 0) (hk : k ≤ M.2.2.2.2.cells ∧ n ≤ M.2.2.2.2.slots) (hr : (st.map fun v => v.category).sum ≤ 8)
    (kk : tl_R E M X Z k n (tl_HB E v) (pc + 3) ls (st)) : tl_R E M X Z k n (tl_HB E u) pc ls (f0 :: e0 :: d0 :: c0 :: b0 :: a0 :: st) :=
  tl_callN6 hN hd hc (by rw [h0.1, h0.2]; exact hk) hr (fun r w q => by obtain ⟨e1, e2⟩ := q; subst e1; subst e2; rw [h0.1, h0.2]; exact kk)
theorem tl_vV6 {a0 b0 c0 d0 e0 f0 : Value} {i o K : Nat} {v : tl_S} {C : String} {T : u_T} {NN : Nat} {ty : Nat → FieldType} (ck : tl_ck K C T NN ty) (hC : N.1.cls = C) (hT : tl_T E.2.1 o = some K) (hN : tl_MB E N (.ref o :: [a0, b0, c0, d0, e0, f0]) u (fun r w => r = none ∧ w = v)) (hd : decode M.2.1 pc = .ok (.invokevirtual i, 3)) (hc : tl_cV M N i 6) (h0 : N.2.2.2.2.cells = 0 ∧ N.2.2.2.2.slots = 0) (hk : k ≤ M.2.2.2.2.cells ∧ n ≤ M.2.2.2.2.slots) (hr : (st.map fun v => v.category).sum ≤ 8)
    (kk : tl_R E M X Z k n (tl_HB E v) (pc + 3) ls (st)) : tl_R E M X Z k n (tl_HB E u) pc ls (f0 :: e0 :: d0 :: c0 :: b0 :: a0 :: .ref o :: st) :=
  tl_callV6 ck hC hT hN hd hc (by rw [h0.1, h0.2]; exact hk) hr (fun r w q => by obtain ⟨e1, e2⟩ := q; subst e1; subst e2; rw [h0.1, h0.2]; exact kk)
theorem tl_iS7 {a0 b0 c0 d0 e0 f0 g0 : Value} {i : Nat} {x : Int32} {v : tl_S} (hN : tl_MB E N [a0, b0, c0, d0, e0, f0, g0] u (fun r w => r = some (.int x) ∧ w = v)) (hd : decode M.2.1 pc = .ok (.invokestatic i, 3)) (hc : tl_cS M N i 7) (h0 : N.2.2.2.2.cells = 0 ∧ N.2.2.2.2.slots = 0) (hk : k ≤ M.2.2.2.2.cells ∧ n ≤ M.2.2.2.2.slots) (hr : (st.map fun v => v.category).sum ≤ 8)
    (kk : tl_R E M X Z k n (tl_HB E v) (pc + 3) ls (.int x :: st)) : tl_R E M X Z k n (tl_HB E u) pc ls (g0 :: f0 :: e0 :: d0 :: c0 :: b0 :: a0 :: st) :=
  tl_callS7 hN hd hc (by rw [h0.1, h0.2]; exact hk) hr (fun r w q => by obtain ⟨e1, e2⟩ := q; subst e1; subst e2; rw [h0.1, h0.2]; exact kk)
theorem tl_iN7 {a0 b0 c0 d0 e0 f0 g0 : Value} {i : Nat} {x : Int32} {v : tl_S} (hN : tl_MB E N [a0, b0, c0, d0, e0, f0, g0] u (fun r w => r = some (.int x) ∧ w = v)) (hd : decode M.2.1 pc = .ok (.invokestatic i, 3)) (hc : tl_cN M N i 7) (h0 : N.2.2.2.2.cells = 0 ∧ N.2.2.2.2.slots = 0) (hk : k ≤ M.2.2.2.2.cells ∧ n ≤ M.2.2.2.2.slots) (hr : (st.map fun v => v.category).sum ≤ 8)
    (kk : tl_R E M X Z k n (tl_HB E v) (pc + 3) ls (.int x :: st)) : tl_R E M X Z k n (tl_HB E u) pc ls (g0 :: f0 :: e0 :: d0 :: c0 :: b0 :: a0 :: st) :=
  tl_callN7 hN hd hc (by rw [h0.1, h0.2]; exact hk) hr (fun r w q => by obtain ⟨e1, e2⟩ := q; subst e1; subst e2; rw [h0.1, h0.2]; exact kk)
theorem tl_lS7 {a0 b0 c0 d0 e0 f0 g0 : Value} {i : Nat} {x : Int64} {v : tl_S} (hN : tl_MB E N [a0, b0, c0, d0, e0, f0, g0] u (fun r w => r = some (.long x) ∧ w = v)) (hd : decode M.2.1 pc = .ok (.invokestatic i, 3)) (hc : tl_cS M N i 7) (h0 : N.2.2.2.2.cells = 0 ∧ N.2.2.2.2.slots = 0) (hk : k ≤ M.2.2.2.2.cells ∧ n ≤ M.2.2.2.2.slots) (hr : (st.map fun v => v.category).sum ≤ 8)
    (kk : tl_R E M X Z k n (tl_HB E v) (pc + 3) ls (.long x :: st)) : tl_R E M X Z k n (tl_HB E u) pc ls (g0 :: f0 :: e0 :: d0 :: c0 :: b0 :: a0 :: st) :=
  tl_callS7 hN hd hc (by rw [h0.1, h0.2]; exact hk) hr (fun r w q => by obtain ⟨e1, e2⟩ := q; subst e1; subst e2; rw [h0.1, h0.2]; exact kk)
theorem tl_lN7 {a0 b0 c0 d0 e0 f0 g0 : Value} {i : Nat} {x : Int64} {v : tl_S} (hN : tl_MB E N [a0, b0, c0, d0, e0, f0, g0] u (fun r w => r = some (.long x) ∧ w = v)) (hd : decode M.2.1 pc = .ok (.invokestatic i, 3)) (hc : tl_cN M N i 7) (h0 : N.2.2.2.2.cells = 0 ∧ N.2.2.2.2.slots = 0) (hk : k ≤ M.2.2.2.2.cells ∧ n ≤ M.2.2.2.2.slots) (hr : (st.map fun v => v.category).sum ≤ 8)
    (kk : tl_R E M X Z k n (tl_HB E v) (pc + 3) ls (.long x :: st)) : tl_R E M X Z k n (tl_HB E u) pc ls (g0 :: f0 :: e0 :: d0 :: c0 :: b0 :: a0 :: st) :=
  tl_callN7 hN hd hc (by rw [h0.1, h0.2]; exact hk) hr (fun r w q => by obtain ⟨e1, e2⟩ := q; subst e1; subst e2; rw [h0.1, h0.2]; exact kk)
theorem tl_vS7 {a0 b0 c0 d0 e0 f0 g0 : Value} {i : Nat} {v : tl_S} (hN : tl_MB E N [a0, b0, c0, d0, e0, f0, g0] u (fun r w => r = none ∧ w = v)) (hd : decode M.2.1 pc = .ok (.invokestatic i, 3)) (hc : tl_cS M N i 7) (h0 : N.2.2.2.2.cells = 0 ∧ N.2.2.2.2.slots = 0) (hk : k ≤ M.2.2.2.2.cells ∧ n ≤ M.2.2.2.2.slots) (hr : (st.map fun v => v.category).sum ≤ 8)
    (kk : tl_R E M X Z k n (tl_HB E v) (pc + 3) ls (st)) : tl_R E M X Z k n (tl_HB E u) pc ls (g0 :: f0 :: e0 :: d0 :: c0 :: b0 :: a0 :: st) :=
  tl_callS7 hN hd hc (by rw [h0.1, h0.2]; exact hk) hr (fun r w q => by obtain ⟨e1, e2⟩ := q; subst e1; subst e2; rw [h0.1, h0.2]; exact kk)
theorem tl_vN7 {a0 b0 c0 d0 e0 f0 g0 : Value} {i : Nat} {v : tl_S} (hN : tl_MB E N [a0, b0, c0, d0, e0, f0, g0] u (fun r w => r = none ∧ w = v)) (hd : decode M.2.1 pc = .ok (.invokestatic i, 3)) (hc : tl_cN M N i 7) (h0 : N.2.2.2.2.cells = 0 ∧ N.2.2.2.2.slots = 0) (hk : k ≤ M.2.2.2.2.cells ∧ n ≤ M.2.2.2.2.slots) (hr : (st.map fun v => v.category).sum ≤ 8)
    (kk : tl_R E M X Z k n (tl_HB E v) (pc + 3) ls (st)) : tl_R E M X Z k n (tl_HB E u) pc ls (g0 :: f0 :: e0 :: d0 :: c0 :: b0 :: a0 :: st) :=
  tl_callN7 hN hd hc (by rw [h0.1, h0.2]; exact hk) hr (fun r w q => by obtain ⟨e1, e2⟩ := q; subst e1; subst e2; rw [h0.1, h0.2]; exact kk)
end TLD
end
