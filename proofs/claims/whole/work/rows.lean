section
-- ===== PART A: goes FIRST, ahead of the names: the tables' words, and 'selects' of the private methods out of them =====
/-- a private method of a class that the tables say can be made, by its rows of tables_1 -/
def lw_okq (q : MethodName × Nat) : Prop := (q.1.cls ≠ "java/lang/invoke/MethodHandle" ∧ q.1.cls ≠ "java/lang/invoke/VarHandle") ∧ Cond.instantiable q.1.cls q.2 ∈ tables_1 ∧ Cond.privateMethod q.1 ∈ tables_1 ∧ Cond.instanceMethod q.1 ∈ tables_1
theorem lw_p0 : lw_okq (⟨"FerryPlans", "refuse", "(I)I"⟩, 12) := ⟨⟨by decide +kernel, by decide +kernel⟩, List.mem_of_getElem? (i := 19) (by decide +kernel), List.mem_of_getElem? (i := 302) (by decide +kernel), List.mem_of_getElem? (i := 303) (by decide +kernel)⟩
theorem lw_p1 : lw_okq (⟨"FerryPlans", "change", "(IIII)I"⟩, 12) := ⟨⟨by decide +kernel, by decide +kernel⟩, List.mem_of_getElem? (i := 19) (by decide +kernel), List.mem_of_getElem? (i := 320) (by decide +kernel), List.mem_of_getElem? (i := 321) (by decide +kernel)⟩
theorem lw_p2 : lw_okq (⟨"FerryPlans$Rules", "readSum", "(LFerryPlans$Text;I)V"⟩, 4) := ⟨⟨by decide +kernel, by decide +kernel⟩, List.mem_of_getElem? (i := 130) (by decide +kernel), List.mem_of_getElem? (i := 436) (by decide +kernel), List.mem_of_getElem? (i := 437) (by decide +kernel)⟩
theorem lw_p3 : lw_okq (⟨"FerryPlans$Rules", "readProduct", "(LFerryPlans$Text;I)V"⟩, 4) := ⟨⟨by decide +kernel, by decide +kernel⟩, List.mem_of_getElem? (i := 130) (by decide +kernel), List.mem_of_getElem? (i := 440) (by decide +kernel), List.mem_of_getElem? (i := 441) (by decide +kernel)⟩
theorem lw_p4 : lw_okq (⟨"FerryPlans$Rules", "readUnit", "(LFerryPlans$Text;I)V"⟩, 4) := ⟨⟨by decide +kernel, by decide +kernel⟩, List.mem_of_getElem? (i := 130) (by decide +kernel), List.mem_of_getElem? (i := 444) (by decide +kernel), List.mem_of_getElem? (i := 445) (by decide +kernel)⟩
theorem lw_p5 : lw_okq (⟨"FerryPlans$Rules", "readNumber", "(LFerryPlans$Text;)V"⟩, 4) := ⟨⟨by decide +kernel, by decide +kernel⟩, List.mem_of_getElem? (i := 130) (by decide +kernel), List.mem_of_getElem? (i := 452) (by decide +kernel), List.mem_of_getElem? (i := 453) (by decide +kernel)⟩
theorem lw_p6 : lw_okq (⟨"FerryPlans$Rules", "readSeen", "(LFerryPlans$Text;)V"⟩, 4) := ⟨⟨by decide +kernel, by decide +kernel⟩, List.mem_of_getElem? (i := 130) (by decide +kernel), List.mem_of_getElem? (i := 462) (by decide +kernel), List.mem_of_getElem? (i := 463) (by decide +kernel)⟩
theorem lw_p7 : lw_okq (⟨"FerryPlans", "theSet", "()I"⟩, 12) := ⟨⟨by decide +kernel, by decide +kernel⟩, List.mem_of_getElem? (i := 19) (by decide +kernel), List.mem_of_getElem? (i := 488) (by decide +kernel), List.mem_of_getElem? (i := 489) (by decide +kernel)⟩
theorem lw_p8 : lw_okq (⟨"FerryPlans$Crossing", "findOwnWay", "(I)V"⟩, 12) := ⟨⟨by decide +kernel, by decide +kernel⟩, List.mem_of_getElem? (i := 157) (by decide +kernel), List.mem_of_getElem? (i := 534) (by decide +kernel), List.mem_of_getElem? (i := 535) (by decide +kernel)⟩
theorem lw_p9 : lw_okq (⟨"FerryPlans$Crossing", "serve", "(I)I"⟩, 12) := ⟨⟨by decide +kernel, by decide +kernel⟩, List.mem_of_getElem? (i := 157) (by decide +kernel), List.mem_of_getElem? (i := 538) (by decide +kernel), List.mem_of_getElem? (i := 539) (by decide +kernel)⟩
theorem lw_p10 : lw_okq (⟨"FerryPlans$Crossing", "roomOf", "(I)I"⟩, 12) := ⟨⟨by decide +kernel, by decide +kernel⟩, List.mem_of_getElem? (i := 157) (by decide +kernel), List.mem_of_getElem? (i := 542) (by decide +kernel), List.mem_of_getElem? (i := 543) (by decide +kernel)⟩
theorem lw_p11 : lw_okq (⟨"FerryPlans$Crossing", "goOwnWay", "(II)V"⟩, 12) := ⟨⟨by decide +kernel, by decide +kernel⟩, List.mem_of_getElem? (i := 157) (by decide +kernel), List.mem_of_getElem? (i := 549) (by decide +kernel), List.mem_of_getElem? (i := 550) (by decide +kernel)⟩
theorem lw_p12 : lw_okq (⟨"FerryPlans$Rules", "hadAt", "(III)I"⟩, 4) := ⟨⟨by decide +kernel, by decide +kernel⟩, List.mem_of_getElem? (i := 130) (by decide +kernel), List.mem_of_getElem? (i := 590) (by decide +kernel), List.mem_of_getElem? (i := 591) (by decide +kernel)⟩
theorem lw_p13 : lw_okq (⟨"FerryPlans", "costWithWord", "(II)I"⟩, 12) := ⟨⟨by decide +kernel, by decide +kernel⟩, List.mem_of_getElem? (i := 19) (by decide +kernel), List.mem_of_getElem? (i := 670) (by decide +kernel), List.mem_of_getElem? (i := 671) (by decide +kernel)⟩
theorem lw_p14 : lw_okq (⟨"FerryPlans$Bearers", "find", "(II)V"⟩, 2) := ⟨⟨by decide +kernel, by decide +kernel⟩, List.mem_of_getElem? (i := 247) (by decide +kernel), List.mem_of_getElem? (i := 697) (by decide +kernel), List.mem_of_getElem? (i := 698) (by decide +kernel)⟩
theorem lw_p15 : lw_okq (⟨"FerryPlans$Bearers", "leastOf", "(II)I"⟩, 2) := ⟨⟨by decide +kernel, by decide +kernel⟩, List.mem_of_getElem? (i := 247) (by decide +kernel), List.mem_of_getElem? (i := 707) (by decide +kernel), List.mem_of_getElem? (i := 708) (by decide +kernel)⟩
def lw_privs_1 : List (MethodName × Nat) := [(⟨"FerryPlans", "refuse", "(I)I"⟩, 12), (⟨"FerryPlans", "change", "(IIII)I"⟩, 12), (⟨"FerryPlans$Rules", "readSum", "(LFerryPlans$Text;I)V"⟩, 4), (⟨"FerryPlans$Rules", "readProduct", "(LFerryPlans$Text;I)V"⟩, 4), (⟨"FerryPlans$Rules", "readUnit", "(LFerryPlans$Text;I)V"⟩, 4), (⟨"FerryPlans$Rules", "readNumber", "(LFerryPlans$Text;)V"⟩, 4), (⟨"FerryPlans$Rules", "readSeen", "(LFerryPlans$Text;)V"⟩, 4), (⟨"FerryPlans", "theSet", "()I"⟩, 12), (⟨"FerryPlans$Crossing", "findOwnWay", "(I)V"⟩, 12), (⟨"FerryPlans$Crossing", "serve", "(I)I"⟩, 12), (⟨"FerryPlans$Crossing", "roomOf", "(I)I"⟩, 12), (⟨"FerryPlans$Crossing", "goOwnWay", "(II)V"⟩, 12), (⟨"FerryPlans$Rules", "hadAt", "(III)I"⟩, 4), (⟨"FerryPlans", "costWithWord", "(II)I"⟩, 12), (⟨"FerryPlans$Bearers", "find", "(II)V"⟩, 2), (⟨"FerryPlans$Bearers", "leastOf", "(II)I"⟩, 2)]
theorem lw_r1 : ∀ q ∈ lw_privs_1, lw_okq q := List.forall_mem_cons.mpr ⟨lw_p0, List.forall_mem_cons.mpr ⟨lw_p1, List.forall_mem_cons.mpr ⟨lw_p2, List.forall_mem_cons.mpr ⟨lw_p3, List.forall_mem_cons.mpr ⟨lw_p4, List.forall_mem_cons.mpr ⟨lw_p5, List.forall_mem_cons.mpr ⟨lw_p6, List.forall_mem_cons.mpr ⟨lw_p7, List.forall_mem_cons.mpr ⟨lw_p8, List.forall_mem_cons.mpr ⟨lw_p9, List.forall_mem_cons.mpr ⟨lw_p10, List.forall_mem_cons.mpr ⟨lw_p11, List.forall_mem_cons.mpr ⟨lw_p12, List.forall_mem_cons.mpr ⟨lw_p13, List.forall_mem_cons.mpr ⟨lw_p14, List.forall_mem_cons.mpr ⟨lw_p15, fun _ h => absurd h List.not_mem_nil⟩⟩⟩⟩⟩⟩⟩⟩⟩⟩⟩⟩⟩⟩⟩⟩
theorem lw_p16 : lw_okq (⟨"FerryPlans$Bearers", "isBorneByNone", "(III)Z"⟩, 2) := ⟨⟨by decide +kernel, by decide +kernel⟩, List.mem_of_getElem? (i := 247) (by decide +kernel), List.mem_of_getElem? (i := 712) (by decide +kernel), List.mem_of_getElem? (i := 713) (by decide +kernel)⟩
theorem lw_p17 : lw_okq (⟨"FerryPlansModel", "no", "(I)I"⟩, 51) := ⟨⟨by decide +kernel, by decide +kernel⟩, List.mem_of_getElem? (i := 759) (by decide +kernel), List.mem_of_getElem? (i := 928) (by decide +kernel), List.mem_of_getElem? (i := 929) (by decide +kernel)⟩
theorem lw_p18 : lw_okq (⟨"FerryPlansModel", "isThere", "(I)Z"⟩, 51) := ⟨⟨by decide +kernel, by decide +kernel⟩, List.mem_of_getElem? (i := 759) (by decide +kernel), List.mem_of_getElem? (i := 932) (by decide +kernel), List.mem_of_getElem? (i := 933) (by decide +kernel)⟩
theorem lw_p19 : lw_okq (⟨"FerryPlansModel", "becomes", "(II)I"⟩, 51) := ⟨⟨by decide +kernel, by decide +kernel⟩, List.mem_of_getElem? (i := 759) (by decide +kernel), List.mem_of_getElem? (i := 947) (by decide +kernel), List.mem_of_getElem? (i := 948) (by decide +kernel)⟩
theorem lw_p20 : lw_okq (⟨"FerryPlansModel", "isLaw", "()Z"⟩, 51) := ⟨⟨by decide +kernel, by decide +kernel⟩, List.mem_of_getElem? (i := 759) (by decide +kernel), List.mem_of_getElem? (i := 976) (by decide +kernel), List.mem_of_getElem? (i := 977) (by decide +kernel)⟩
theorem lw_p21 : lw_okq (⟨"FerryPlansModel", "sign", "()I"⟩, 51) := ⟨⟨by decide +kernel, by decide +kernel⟩, List.mem_of_getElem? (i := 759) (by decide +kernel), List.mem_of_getElem? (i := 980) (by decide +kernel), List.mem_of_getElem? (i := 981) (by decide +kernel)⟩
theorem lw_p22 : lw_okq (⟨"FerryPlansModel", "part", "()Z"⟩, 51) := ⟨⟨by decide +kernel, by decide +kernel⟩, List.mem_of_getElem? (i := 759) (by decide +kernel), List.mem_of_getElem? (i := 984) (by decide +kernel), List.mem_of_getElem? (i := 985) (by decide +kernel)⟩
theorem lw_p23 : lw_okq (⟨"FerryPlansModel", "digit", "()Z"⟩, 51) := ⟨⟨by decide +kernel, by decide +kernel⟩, List.mem_of_getElem? (i := 759) (by decide +kernel), List.mem_of_getElem? (i := 988) (by decide +kernel), List.mem_of_getElem? (i := 989) (by decide +kernel)⟩
theorem lw_p24 : lw_okq (⟨"FerryPlansModel", "closes", "()V"⟩, 51) := ⟨⟨by decide +kernel, by decide +kernel⟩, List.mem_of_getElem? (i := 759) (by decide +kernel), List.mem_of_getElem? (i := 995) (by decide +kernel), List.mem_of_getElem? (i := 996) (by decide +kernel)⟩
theorem lw_p25 : lw_okq (⟨"FerryPlansModel", "isRule", "(I)Z"⟩, 51) := ⟨⟨by decide +kernel, by decide +kernel⟩, List.mem_of_getElem? (i := 759) (by decide +kernel), List.mem_of_getElem? (i := 1007) (by decide +kernel), List.mem_of_getElem? (i := 1008) (by decide +kernel)⟩
theorem lw_p26 : lw_okq (⟨"FerryPlansModel", "unit", "(I)Z"⟩, 51) := ⟨⟨by decide +kernel, by decide +kernel⟩, List.mem_of_getElem? (i := 759) (by decide +kernel), List.mem_of_getElem? (i := 1011) (by decide +kernel), List.mem_of_getElem? (i := 1012) (by decide +kernel)⟩
theorem lw_p27 : lw_okq (⟨"FerryPlansModel", "finds", "()V"⟩, 51) := ⟨⟨by decide +kernel, by decide +kernel⟩, List.mem_of_getElem? (i := 759) (by decide +kernel), List.mem_of_getElem? (i := 1023) (by decide +kernel), List.mem_of_getElem? (i := 1024) (by decide +kernel)⟩
theorem lw_p28 : lw_okq (⟨"FerryPlansModel", "lets", "(I)Z"⟩, 51) := ⟨⟨by decide +kernel, by decide +kernel⟩, List.mem_of_getElem? (i := 759) (by decide +kernel), List.mem_of_getElem? (i := 1027) (by decide +kernel), List.mem_of_getElem? (i := 1028) (by decide +kernel)⟩
theorem lw_p29 : lw_okq (⟨"FerryPlansModel", "letsBy", "(II)Z"⟩, 51) := ⟨⟨by decide +kernel, by decide +kernel⟩, List.mem_of_getElem? (i := 759) (by decide +kernel), List.mem_of_getElem? (i := 1031) (by decide +kernel), List.mem_of_getElem? (i := 1032) (by decide +kernel)⟩
theorem lw_p30 : lw_okq (⟨"FerryPlansModel", "lawSign", "(I)I"⟩, 51) := ⟨⟨by decide +kernel, by decide +kernel⟩, List.mem_of_getElem? (i := 759) (by decide +kernel), List.mem_of_getElem? (i := 1035) (by decide +kernel), List.mem_of_getElem? (i := 1036) (by decide +kernel)⟩
theorem lw_p31 : lw_okq (⟨"FerryPlansModel", "compared", "(II)I"⟩, 51) := ⟨⟨by decide +kernel, by decide +kernel⟩, List.mem_of_getElem? (i := 759) (by decide +kernel), List.mem_of_getElem? (i := 1039) (by decide +kernel), List.mem_of_getElem? (i := 1040) (by decide +kernel)⟩
def lw_privs_2 : List (MethodName × Nat) := [(⟨"FerryPlans$Bearers", "isBorneByNone", "(III)Z"⟩, 2), (⟨"FerryPlansModel", "no", "(I)I"⟩, 51), (⟨"FerryPlansModel", "isThere", "(I)Z"⟩, 51), (⟨"FerryPlansModel", "becomes", "(II)I"⟩, 51), (⟨"FerryPlansModel", "isLaw", "()Z"⟩, 51), (⟨"FerryPlansModel", "sign", "()I"⟩, 51), (⟨"FerryPlansModel", "part", "()Z"⟩, 51), (⟨"FerryPlansModel", "digit", "()Z"⟩, 51), (⟨"FerryPlansModel", "closes", "()V"⟩, 51), (⟨"FerryPlansModel", "isRule", "(I)Z"⟩, 51), (⟨"FerryPlansModel", "unit", "(I)Z"⟩, 51), (⟨"FerryPlansModel", "finds", "()V"⟩, 51), (⟨"FerryPlansModel", "lets", "(I)Z"⟩, 51), (⟨"FerryPlansModel", "letsBy", "(II)Z"⟩, 51), (⟨"FerryPlansModel", "lawSign", "(I)I"⟩, 51), (⟨"FerryPlansModel", "compared", "(II)I"⟩, 51)]
theorem lw_r2 : ∀ q ∈ lw_privs_2, lw_okq q := List.forall_mem_cons.mpr ⟨lw_p16, List.forall_mem_cons.mpr ⟨lw_p17, List.forall_mem_cons.mpr ⟨lw_p18, List.forall_mem_cons.mpr ⟨lw_p19, List.forall_mem_cons.mpr ⟨lw_p20, List.forall_mem_cons.mpr ⟨lw_p21, List.forall_mem_cons.mpr ⟨lw_p22, List.forall_mem_cons.mpr ⟨lw_p23, List.forall_mem_cons.mpr ⟨lw_p24, List.forall_mem_cons.mpr ⟨lw_p25, List.forall_mem_cons.mpr ⟨lw_p26, List.forall_mem_cons.mpr ⟨lw_p27, List.forall_mem_cons.mpr ⟨lw_p28, List.forall_mem_cons.mpr ⟨lw_p29, List.forall_mem_cons.mpr ⟨lw_p30, List.forall_mem_cons.mpr ⟨lw_p31, fun _ h => absurd h List.not_mem_nil⟩⟩⟩⟩⟩⟩⟩⟩⟩⟩⟩⟩⟩⟩⟩⟩
theorem lw_p32 : lw_okq (⟨"FerryPlansModel", "push", "(I)V"⟩, 51) := ⟨⟨by decide +kernel, by decide +kernel⟩, List.mem_of_getElem? (i := 759) (by decide +kernel), List.mem_of_getElem? (i := 1046) (by decide +kernel), List.mem_of_getElem? (i := 1047) (by decide +kernel)⟩
theorem lw_p33 : lw_okq (⟨"FerryPlansModel", "works", "(I)V"⟩, 51) := ⟨⟨by decide +kernel, by decide +kernel⟩, List.mem_of_getElem? (i := 759) (by decide +kernel), List.mem_of_getElem? (i := 1050) (by decide +kernel), List.mem_of_getElem? (i := 1051) (by decide +kernel)⟩
theorem lw_p34 : lw_okq (⟨"FerryPlansModel", "waitsFor", "(I)V"⟩, 51) := ⟨⟨by decide +kernel, by decide +kernel⟩, List.mem_of_getElem? (i := 759) (by decide +kernel), List.mem_of_getElem? (i := 1057) (by decide +kernel), List.mem_of_getElem? (i := 1058) (by decide +kernel)⟩
theorem lw_p35 : lw_okq (⟨"FerryPlansModel", "isWorld", "(I)Z"⟩, 51) := ⟨⟨by decide +kernel, by decide +kernel⟩, List.mem_of_getElem? (i := 759) (by decide +kernel), List.mem_of_getElem? (i := 1061) (by decide +kernel), List.mem_of_getElem? (i := 1062) (by decide +kernel)⟩
theorem lw_p36 : lw_okq (⟨"FerryPlansModel", "isPlan", "(I)Z"⟩, 51) := ⟨⟨by decide +kernel, by decide +kernel⟩, List.mem_of_getElem? (i := 759) (by decide +kernel), List.mem_of_getElem? (i := 1066) (by decide +kernel), List.mem_of_getElem? (i := 1067) (by decide +kernel)⟩
theorem lw_p37 : lw_okq (⟨"FerryPlansModel", "hired", "(I)I"⟩, 51) := ⟨⟨by decide +kernel, by decide +kernel⟩, List.mem_of_getElem? (i := 759) (by decide +kernel), List.mem_of_getElem? (i := 1073) (by decide +kernel), List.mem_of_getElem? (i := 1074) (by decide +kernel)⟩
theorem lw_p38 : lw_okq (⟨"FerryPlansModel", "laterOf", "(II)I"⟩, 51) := ⟨⟨by decide +kernel, by decide +kernel⟩, List.mem_of_getElem? (i := 759) (by decide +kernel), List.mem_of_getElem? (i := 1077) (by decide +kernel), List.mem_of_getElem? (i := 1078) (by decide +kernel)⟩
theorem lw_p39 : lw_okq (⟨"FerryPlansModel", "findLacks", "(II)V"⟩, 51) := ⟨⟨by decide +kernel, by decide +kernel⟩, List.mem_of_getElem? (i := 759) (by decide +kernel), List.mem_of_getElem? (i := 1081) (by decide +kernel), List.mem_of_getElem? (i := 1082) (by decide +kernel)⟩
theorem lw_p40 : lw_okq (⟨"FerryPlansModel", "tries", "()V"⟩, 51) := ⟨⟨by decide +kernel, by decide +kernel⟩, List.mem_of_getElem? (i := 759) (by decide +kernel), List.mem_of_getElem? (i := 1085) (by decide +kernel), List.mem_of_getElem? (i := 1086) (by decide +kernel)⟩
theorem lw_p41 : lw_okq (⟨"FerryPlansModel", "worth", "()I"⟩, 51) := ⟨⟨by decide +kernel, by decide +kernel⟩, List.mem_of_getElem? (i := 759) (by decide +kernel), List.mem_of_getElem? (i := 1089) (by decide +kernel), List.mem_of_getElem? (i := 1090) (by decide +kernel)⟩
theorem lw_p42 : lw_okq (⟨"FerryPlansModel", "triesLevel", "(II)V"⟩, 51) := ⟨⟨by decide +kernel, by decide +kernel⟩, List.mem_of_getElem? (i := 759) (by decide +kernel), List.mem_of_getElem? (i := 1096) (by decide +kernel), List.mem_of_getElem? (i := 1097) (by decide +kernel)⟩
theorem lw_p43 : lw_okq (⟨"FerryPlansModel", "priceOf", "(II)I"⟩, 51) := ⟨⟨by decide +kernel, by decide +kernel⟩, List.mem_of_getElem? (i := 759) (by decide +kernel), List.mem_of_getElem? (i := 1100) (by decide +kernel), List.mem_of_getElem? (i := 1101) (by decide +kernel)⟩
theorem lw_p44 : lw_okq (⟨"FerryPlansModel", "triesTwo", "(II)V"⟩, 51) := ⟨⟨by decide +kernel, by decide +kernel⟩, List.mem_of_getElem? (i := 759) (by decide +kernel), List.mem_of_getElem? (i := 1104) (by decide +kernel), List.mem_of_getElem? (i := 1105) (by decide +kernel)⟩
theorem lw_p45 : lw_okq (⟨"FerryPlansModel", "draws", "(I)V"⟩, 51) := ⟨⟨by decide +kernel, by decide +kernel⟩, List.mem_of_getElem? (i := 759) (by decide +kernel), List.mem_of_getElem? (i := 1108) (by decide +kernel), List.mem_of_getElem? (i := 1109) (by decide +kernel)⟩
theorem lw_p46 : lw_okq (⟨"FerryPlansModel", "worstOf", "(III)I"⟩, 51) := ⟨⟨by decide +kernel, by decide +kernel⟩, List.mem_of_getElem? (i := 759) (by decide +kernel), List.mem_of_getElem? (i := 1124) (by decide +kernel), List.mem_of_getElem? (i := 1125) (by decide +kernel)⟩
theorem lw_p47 : lw_okq (⟨"FerryPlansModel", "bestOf", "(II)I"⟩, 51) := ⟨⟨by decide +kernel, by decide +kernel⟩, List.mem_of_getElem? (i := 759) (by decide +kernel), List.mem_of_getElem? (i := 1132) (by decide +kernel), List.mem_of_getElem? (i := 1133) (by decide +kernel)⟩
def lw_privs_3 : List (MethodName × Nat) := [(⟨"FerryPlansModel", "push", "(I)V"⟩, 51), (⟨"FerryPlansModel", "works", "(I)V"⟩, 51), (⟨"FerryPlansModel", "waitsFor", "(I)V"⟩, 51), (⟨"FerryPlansModel", "isWorld", "(I)Z"⟩, 51), (⟨"FerryPlansModel", "isPlan", "(I)Z"⟩, 51), (⟨"FerryPlansModel", "hired", "(I)I"⟩, 51), (⟨"FerryPlansModel", "laterOf", "(II)I"⟩, 51), (⟨"FerryPlansModel", "findLacks", "(II)V"⟩, 51), (⟨"FerryPlansModel", "tries", "()V"⟩, 51), (⟨"FerryPlansModel", "worth", "()I"⟩, 51), (⟨"FerryPlansModel", "triesLevel", "(II)V"⟩, 51), (⟨"FerryPlansModel", "priceOf", "(II)I"⟩, 51), (⟨"FerryPlansModel", "triesTwo", "(II)V"⟩, 51), (⟨"FerryPlansModel", "draws", "(I)V"⟩, 51), (⟨"FerryPlansModel", "worstOf", "(III)I"⟩, 51), (⟨"FerryPlansModel", "bestOf", "(II)I"⟩, 51)]
theorem lw_r3 : ∀ q ∈ lw_privs_3, lw_okq q := List.forall_mem_cons.mpr ⟨lw_p32, List.forall_mem_cons.mpr ⟨lw_p33, List.forall_mem_cons.mpr ⟨lw_p34, List.forall_mem_cons.mpr ⟨lw_p35, List.forall_mem_cons.mpr ⟨lw_p36, List.forall_mem_cons.mpr ⟨lw_p37, List.forall_mem_cons.mpr ⟨lw_p38, List.forall_mem_cons.mpr ⟨lw_p39, List.forall_mem_cons.mpr ⟨lw_p40, List.forall_mem_cons.mpr ⟨lw_p41, List.forall_mem_cons.mpr ⟨lw_p42, List.forall_mem_cons.mpr ⟨lw_p43, List.forall_mem_cons.mpr ⟨lw_p44, List.forall_mem_cons.mpr ⟨lw_p45, List.forall_mem_cons.mpr ⟨lw_p46, List.forall_mem_cons.mpr ⟨lw_p47, fun _ h => absurd h List.not_mem_nil⟩⟩⟩⟩⟩⟩⟩⟩⟩⟩⟩⟩⟩⟩⟩⟩
theorem lw_p48 : lw_okq (⟨"FerryPlansModel", "byRulesOf", "(II)I"⟩, 51) := ⟨⟨by decide +kernel, by decide +kernel⟩, List.mem_of_getElem? (i := 759) (by decide +kernel), List.mem_of_getElem? (i := 1140) (by decide +kernel), List.mem_of_getElem? (i := 1141) (by decide +kernel)⟩
theorem lw_p49 : lw_okq (⟨"FerryPlansModel", "hadOf", "(III)I"⟩, 51) := ⟨⟨by decide +kernel, by decide +kernel⟩, List.mem_of_getElem? (i := 759) (by decide +kernel), List.mem_of_getElem? (i := 1144) (by decide +kernel), List.mem_of_getElem? (i := 1145) (by decide +kernel)⟩
theorem lw_p50 : lw_okq (⟨"FerryPlansModel", "ruleWorth", "(III)I"⟩, 51) := ⟨⟨by decide +kernel, by decide +kernel⟩, List.mem_of_getElem? (i := 759) (by decide +kernel), List.mem_of_getElem? (i := 1148) (by decide +kernel), List.mem_of_getElem? (i := 1149) (by decide +kernel)⟩
theorem lw_p51 : lw_okq (⟨"FerryPlansModel", "leftOf", "(III)I"⟩, 51) := ⟨⟨by decide +kernel, by decide +kernel⟩, List.mem_of_getElem? (i := 759) (by decide +kernel), List.mem_of_getElem? (i := 1152) (by decide +kernel), List.mem_of_getElem? (i := 1153) (by decide +kernel)⟩
theorem lw_p52 : lw_okq (⟨"FerryPlansModel", "borneMost", "(I)I"⟩, 51) := ⟨⟨by decide +kernel, by decide +kernel⟩, List.mem_of_getElem? (i := 759) (by decide +kernel), List.mem_of_getElem? (i := 1164) (by decide +kernel), List.mem_of_getElem? (i := 1165) (by decide +kernel)⟩
theorem lw_p53 : lw_okq (⟨"FerryPlansModel", "fails", "()I"⟩, 51) := ⟨⟨by decide +kernel, by decide +kernel⟩, List.mem_of_getElem? (i := 759) (by decide +kernel), List.mem_of_getElem? (i := 1176) (by decide +kernel), List.mem_of_getElem? (i := 1177) (by decide +kernel)⟩
theorem lw_p54 : lw_okq (⟨"FerryPlansModel", "known", "(I)I"⟩, 51) := ⟨⟨by decide +kernel, by decide +kernel⟩, List.mem_of_getElem? (i := 759) (by decide +kernel), List.mem_of_getElem? (i := 1197) (by decide +kernel), List.mem_of_getElem? (i := 1198) (by decide +kernel)⟩
theorem lw_p55 : lw_okq (⟨"FerryPlansModel", "isNoneFor", "(II)Z"⟩, 51) := ⟨⟨by decide +kernel, by decide +kernel⟩, List.mem_of_getElem? (i := 759) (by decide +kernel), List.mem_of_getElem? (i := 1215) (by decide +kernel), List.mem_of_getElem? (i := 1216) (by decide +kernel)⟩
theorem lw_p56 : lw_okq (⟨"FerryPlansModel", "harbours", "()I"⟩, 51) := ⟨⟨by decide +kernel, by decide +kernel⟩, List.mem_of_getElem? (i := 759) (by decide +kernel), List.mem_of_getElem? (i := 1240) (by decide +kernel), List.mem_of_getElem? (i := 1241) (by decide +kernel)⟩
def lw_privs_4 : List (MethodName × Nat) := [(⟨"FerryPlansModel", "byRulesOf", "(II)I"⟩, 51), (⟨"FerryPlansModel", "hadOf", "(III)I"⟩, 51), (⟨"FerryPlansModel", "ruleWorth", "(III)I"⟩, 51), (⟨"FerryPlansModel", "leftOf", "(III)I"⟩, 51), (⟨"FerryPlansModel", "borneMost", "(I)I"⟩, 51), (⟨"FerryPlansModel", "fails", "()I"⟩, 51), (⟨"FerryPlansModel", "known", "(I)I"⟩, 51), (⟨"FerryPlansModel", "isNoneFor", "(II)Z"⟩, 51), (⟨"FerryPlansModel", "harbours", "()I"⟩, 51)]
theorem lw_r4 : ∀ q ∈ lw_privs_4, lw_okq q := List.forall_mem_cons.mpr ⟨lw_p48, List.forall_mem_cons.mpr ⟨lw_p49, List.forall_mem_cons.mpr ⟨lw_p50, List.forall_mem_cons.mpr ⟨lw_p51, List.forall_mem_cons.mpr ⟨lw_p52, List.forall_mem_cons.mpr ⟨lw_p53, List.forall_mem_cons.mpr ⟨lw_p54, List.forall_mem_cons.mpr ⟨lw_p55, List.forall_mem_cons.mpr ⟨lw_p56, fun _ h => absurd h List.not_mem_nil⟩⟩⟩⟩⟩⟩⟩⟩⟩
def lw_privs : List (MethodName × Nat) := lw_privs_1 ++ (lw_privs_2 ++ (lw_privs_3 ++ (lw_privs_4)))
def lw_tbl : List Cond := k2_sels lw_privs ++ tables_1
theorem lw_privs_ok : ∀ q ∈ lw_privs, lw_okq q := by
  show ∀ q ∈ lw_privs_1 ++ (lw_privs_2 ++ (lw_privs_3 ++ (lw_privs_4))), lw_okq q
  exact List.forall_mem_append.mpr ⟨lw_r1, List.forall_mem_append.mpr ⟨lw_r2, List.forall_mem_append.mpr ⟨lw_r3, lw_r4⟩⟩⟩
end
section
theorem goodIn_r {big : List Cond} (ws : List Cond) (ps : List Nat) (hp : ws = ps.filterMap (fun i => big[i]?)) (h : ws.all goodWord = true) : GoodIn big ws := by
  intro w hw
  have h1 := List.all_eq_true.mp h w hw
  rw [hp] at hw
  obtain ⟨i, -, hi⟩ := List.mem_filterMap.mp hw
  have hm : w ∈ big := by first | exact List.mem_of_getElem? hi | exact List.getElem?_mem hi
  exact ⟨hm, good_of_word h1⟩
theorem goodIn_app {big a b : List Cond} (ha : GoodIn big a) (hb : GoodIn big b) : GoodIn big (a ++ b) := fun w h => (List.mem_append.mp h).elim (ha w) (hb w)
theorem goodIn_ca {big a b : List Cond} {c : Cond} (ha : GoodIn big (c :: a)) (hb : GoodIn big b) : GoodIn big (c :: (a ++ b)) := fun w h => (List.mem_cons.mp h).elim (fun e => ha w (List.mem_cons.mpr (Or.inl e))) (fun h => (List.mem_append.mp h).elim (fun h => ha w (List.mem_cons.mpr (Or.inr h))) (hb w))
theorem goodIn_sub {big ws : List Cond} (hm : ∀ w ∈ ws, w ∈ big) (h : ws.all goodWord = true) : GoodIn big ws := fun w hw => ⟨hm w hw, good_of_word (List.all_eq_true.mp h w hw)⟩
def RX0 : String := "FerryPlans$Bearers"
def TX0 : u_T := fun k => match k with
  | 0 => ("FerryPlans$Bearers", "costs", "LFerryPlans$Costs;", true)
  | _ => ("FerryPlans$Bearers", "bears", "[J", true)
def tyX0 : Nat → FieldType := fun k => match k with
  | 0 => .object "FerryPlans$Costs"
  | _ => .array .long
abbrev wsX00 : List Cond := u_ws RX0 TX0 2
theorem nmX0 : ∀ a, a < 2 → ∀ b, b < 2 → a ≠ b → (TX0 a).2.1 ≠ (TX0 b).2.1 := by decide +kernel
theorem tyX0_ok : ∀ k, k < 2 → parseFieldDescriptor (TX0 k).2.2.1 = some (tyX0 k) := by decide +kernel
abbrev cX0_init : ByteArray := prog_2_method_1_code
def yX0_init : MethodName := ⟨RX0, "<init>", "(LFerryPlans$Costs;)V"⟩
abbrev cX0_fewest : ByteArray := prog_2_method_2_code
def yX0_fewest : MethodName := ⟨RX0, "fewest", "(II)I"⟩
abbrev cX0_find : ByteArray := prog_2_method_3_code
def yX0_find : MethodName := ⟨RX0, "find", "(II)V"⟩
abbrev cX0_leastOf : ByteArray := prog_2_method_4_code
def yX0_leastOf : MethodName := ⟨RX0, "leastOf", "(II)I"⟩
abbrev cX0_isBorneByNone : ByteArray := prog_2_method_5_code
def yX0_isBorneByNone : MethodName := ⟨RX0, "isBorneByNone", "(III)Z"⟩
def RX1 : String := "FerryPlans$Changes"
def TX1 : u_T := fun k => match k with
  | 0 => ("FerryPlans$Changes", "slots", "[I", true)
  | 1 => ("FerryPlans$Changes", "before", "[I", true)
  | 2 => ("FerryPlans$Changes", "next", "I", false)
  | _ => ("FerryPlans$Changes", "size", "I", false)
def tyX1 : Nat → FieldType := fun k => match k with
  | 0 => .array .int
  | 1 => .array .int
  | 2 => .int
  | _ => .int
abbrev wsX10 : List Cond := u_ws RX1 TX1 4
theorem nmX1 : ∀ a, a < 4 → ∀ b, b < 4 → a ≠ b → (TX1 a).2.1 ≠ (TX1 b).2.1 := by decide +kernel
theorem tyX1_ok : ∀ k, k < 4 → parseFieldDescriptor (TX1 k).2.2.1 = some (tyX1 k) := by decide +kernel
abbrev cX1_init : ByteArray := prog_3_method_1_code
def yX1_init : MethodName := ⟨RX1, "<init>", "()V"⟩
abbrev cX1_note : ByteArray := prog_3_method_2_code
def yX1_note : MethodName := ⟨RX1, "note", "(II)V"⟩
abbrev cX1_takeBack : ByteArray := prog_3_method_3_code
def yX1_takeBack : MethodName := ⟨RX1, "takeBack", "([I)V"⟩
def RX2 : String := "FerryPlans$Closing"
def TX2 : u_T := fun k => match k with
  | 0 => ("FerryPlans$Closing", "costs", "LFerryPlans$Costs;", true)
  | 1 => ("FerryPlans$Closing", "under", "I", false)
  | 2 => ("FerryPlans$Closing", "over", "I", false)
  | 3 => ("FerryPlans$Closing", "plan", "I", false)
  | 4 => ("FerryPlans$Closing", "rounds", "I", false)
  | 5 => ("FerryPlans$Closing", "borne", "I", false)
  | _ => ("FerryPlans$Closing", "proved", "Z", false)
def tyX2 : Nat → FieldType := fun k => match k with
  | 0 => .object "FerryPlans$Costs"
  | 1 => .int
  | 2 => .int
  | 3 => .int
  | 4 => .int
  | 5 => .int
  | _ => .boolean
abbrev wsX20 : List Cond := u_ws RX2 TX2 7
theorem nmX2 : ∀ a, a < 7 → ∀ b, b < 7 → a ≠ b → (TX2 a).2.1 ≠ (TX2 b).2.1 := by decide +kernel
theorem tyX2_ok : ∀ k, k < 7 → parseFieldDescriptor (TX2 k).2.2.1 = some (tyX2 k) := by decide +kernel
abbrev cX2_init : ByteArray := prog_4_method_1_code
def yX2_init : MethodName := ⟨RX2, "<init>", "(LFerryPlans$Costs;)V"⟩
abbrev cX2_run : ByteArray := prog_4_method_2_code
def yX2_run : MethodName := ⟨RX2, "run", "(II)V"⟩
abbrev cX2_answer : ByteArray := prog_4_method_3_code
def yX2_answer : MethodName := ⟨RX2, "answer", "(I)I"⟩
def RX3 : String := "FerryPlans$Costs"
def TX3 : u_T := fun k => match k with
  | 0 => ("FerryPlans$Costs", "told", "LFerryPlans$Told;", true)
  | 1 => ("FerryPlans$Costs", "crossing", "LFerryPlans$Crossing;", true)
  | 2 => ("FerryPlans$Costs", "known", "[I", true)
  | 3 => ("FerryPlans$Costs", "stale", "Z", false)
  | _ => ("FerryPlans$Costs", "bestPlan", "I", false)
def tyX3 : Nat → FieldType := fun k => match k with
  | 0 => .object "FerryPlans$Told"
  | 1 => .object "FerryPlans$Crossing"
  | 2 => .array .int
  | 3 => .boolean
  | _ => .int
abbrev wsX30 : List Cond := u_ws RX3 TX3 5
theorem nmX3 : ∀ a, a < 5 → ∀ b, b < 5 → a ≠ b → (TX3 a).2.1 ≠ (TX3 b).2.1 := by decide +kernel
theorem tyX3_ok : ∀ k, k < 5 → parseFieldDescriptor (TX3 k).2.2.1 = some (tyX3 k) := by decide +kernel
abbrev cX3_init : ByteArray := prog_5_method_1_code
def yX3_init : MethodName := ⟨RX3, "<init>", "(LFerryPlans$Told;)V"⟩
abbrev cX3_forget : ByteArray := prog_5_method_2_code
def yX3_forget : MethodName := ⟨RX3, "forget", "()V"⟩
abbrev cX3_of : ByteArray := prog_5_method_3_code
def yX3_of : MethodName := ⟨RX3, "of", "(II)I"⟩
abbrev cX3_worstWorld : ByteArray := prog_5_method_4_code
def yX3_worstWorld : MethodName := ⟨RX3, "worstWorld", "(II)I"⟩
abbrev cX3_worstOver : ByteArray := prog_5_method_5_code
def yX3_worstOver : MethodName := ⟨RX3, "worstOver", "(II)I"⟩
abbrev cX3_bestOver : ByteArray := prog_5_method_6_code
def yX3_bestOver : MethodName := ⟨RX3, "bestOver", "(I)I"⟩
def RX4 : String := "FerryPlans$Crossing"
def TX4 : u_T := fun k => match k with
  | 0 => ("FerryPlans$Crossing", "told", "LFerryPlans$Told;", true)
  | 1 => ("FerryPlans$Crossing", "givers", "I", false)
  | 2 => ("FerryPlans$Crossing", "giver", "[I", true)
  | 3 => ("FerryPlans$Crossing", "spare", "[I", true)
  | 4 => ("FerryPlans$Crossing", "takers", "I", false)
  | 5 => ("FerryPlans$Crossing", "taker", "[I", true)
  | 6 => ("FerryPlans$Crossing", "lack", "[I", true)
  | 7 => ("FerryPlans$Crossing", "hirable", "[I", true)
  | 8 => ("FerryPlans$Crossing", "fares", "[I", true)
  | 9 => ("FerryPlans$Crossing", "sent", "[I", true)
  | 10 => ("FerryPlans$Crossing", "price", "[I", true)
  | _ => ("FerryPlans$Crossing", "way", "[I", true)
def tyX4 : Nat → FieldType := fun k => match k with
  | 0 => .object "FerryPlans$Told"
  | 1 => .int
  | 2 => .array .int
  | 3 => .array .int
  | 4 => .int
  | 5 => .array .int
  | 6 => .array .int
  | 7 => .array .int
  | 8 => .array .int
  | 9 => .array .int
  | 10 => .array .int
  | _ => .array .int
abbrev wsX40 : List Cond := u_ws RX4 TX4 12
theorem nmX4 : ∀ a, a < 12 → ∀ b, b < 12 → a ≠ b → (TX4 a).2.1 ≠ (TX4 b).2.1 := by decide +kernel
theorem tyX4_ok : ∀ k, k < 12 → parseFieldDescriptor (TX4 k).2.2.1 = some (tyX4 k) := by decide +kernel
abbrev cX4_init : ByteArray := prog_6_method_1_code
def yX4_init : MethodName := ⟨RX4, "<init>", "(LFerryPlans$Told;)V"⟩
abbrev cX4_weigh : ByteArray := prog_6_method_2_code
def yX4_weigh : MethodName := ⟨RX4, "weigh", "(II)V"⟩
abbrev cX4_leastLater : ByteArray := prog_6_method_3_code
def yX4_leastLater : MethodName := ⟨RX4, "leastLater", "()I"⟩
abbrev cX4_findOwnWay : ByteArray := prog_6_method_4_code
def yX4_findOwnWay : MethodName := ⟨RX4, "findOwnWay", "(I)V"⟩
abbrev cX4_serve : ByteArray := prog_6_method_5_code
def yX4_serve : MethodName := ⟨RX4, "serve", "(I)I"⟩
abbrev cX4_roomOf : ByteArray := prog_6_method_6_code
def yX4_roomOf : MethodName := ⟨RX4, "roomOf", "(I)I"⟩
abbrev cX4_goOwnWay : ByteArray := prog_6_method_7_code
def yX4_goOwnWay : MethodName := ⟨RX4, "goOwnWay", "(II)V"⟩
def RX5 : String := "FerryPlans$Laws"
def TX5 : u_T := fun k => match k with
  | _ => ("", "", "", false)
def tyX5 : Nat → FieldType := fun k => match k with
  | _ => .int
abbrev wsX50 : List Cond := u_ws RX5 TX5 0
theorem nmX5 : ∀ a, a < 0 → ∀ b, b < 0 → a ≠ b → (TX5 a).2.1 ≠ (TX5 b).2.1 := by decide +kernel
theorem tyX5_ok : ∀ k, k < 0 → parseFieldDescriptor (TX5 k).2.2.1 = some (tyX5 k) := by decide +kernel
abbrev cX5_worldsOf : ByteArray := prog_7_method_2_code
def yX5_worldsOf : MethodName := ⟨RX5, "worldsOf", "(LFerryPlans$Text;)I"⟩
abbrev cX5_readTest : ByteArray := prog_7_method_3_code
def yX5_readTest : MethodName := ⟨RX5, "readTest", "(LFerryPlans$Text;I)I"⟩
abbrev cX5_readTerm : ByteArray := prog_7_method_4_code
def yX5_readTerm : MethodName := ⟨RX5, "readTerm", "(LFerryPlans$Text;I)I"⟩
abbrev cX5_readPart : ByteArray := prog_7_method_5_code
def yX5_readPart : MethodName := ⟨RX5, "readPart", "(LFerryPlans$Text;I)I"⟩
abbrev cX5_readCount : ByteArray := prog_7_method_6_code
def yX5_readCount : MethodName := ⟨RX5, "readCount", "(LFerryPlans$Text;)I"⟩
abbrev cX5_worldsBad : ByteArray := prog_7_method_7_code
def yX5_worldsBad : MethodName := ⟨RX5, "worldsBad", "(I)I"⟩
def RX6 : String := "FerryPlans$Proof"
def TX6 : u_T := fun k => match k with
  | _ => ("", "", "", false)
def tyX6 : Nat → FieldType := fun k => match k with
  | _ => .int
abbrev wsX60 : List Cond := u_ws RX6 TX6 0
theorem nmX6 : ∀ a, a < 0 → ∀ b, b < 0 → a ≠ b → (TX6 a).2.1 ≠ (TX6 b).2.1 := by decide +kernel
theorem tyX6_ok : ∀ k, k < 0 → parseFieldDescriptor (TX6 k).2.2.1 = some (tyX6 k) := by decide +kernel
abbrev cX6_failureOf : ByteArray := prog_8_method_2_code
def yX6_failureOf : MethodName := ⟨RX6, "failureOf", "([ILFerryPlans$Told;II)I"⟩
abbrev cX6_failureAt : ByteArray := prog_8_method_3_code
def yX6_failureAt : MethodName := ⟨RX6, "failureAt", "(I[ILFerryPlans$Told;II)I"⟩
abbrev cX6_worthOf : ByteArray := prog_8_method_4_code
def yX6_worthOf : MethodName := ⟨RX6, "worthOf", "([ILFerryPlans$Told;II)I"⟩
def RX7 : String := "FerryPlans$Rule"
def TX7 : u_T := fun k => match k with
  | 0 => ("FerryPlans$Rule", "parts", "[I", true)
  | _ => ("FerryPlans$Rule", "length", "I", false)
def tyX7 : Nat → FieldType := fun k => match k with
  | 0 => .array .int
  | _ => .int
abbrev wsX70 : List Cond := u_ws RX7 TX7 2
theorem nmX7 : ∀ a, a < 2 → ∀ b, b < 2 → a ≠ b → (TX7 a).2.1 ≠ (TX7 b).2.1 := by decide +kernel
theorem tyX7_ok : ∀ k, k < 2 → parseFieldDescriptor (TX7 k).2.2.1 = some (tyX7 k) := by decide +kernel
abbrev cX7_init : ByteArray := prog_9_method_1_code
def yX7_init : MethodName := ⟨RX7, "<init>", "()V"⟩
abbrev cX7_copy : ByteArray := prog_9_method_2_code
def yX7_copy : MethodName := ⟨RX7, "copy", "(LFerryPlans$Rule;)V"⟩
abbrev cX7_add : ByteArray := prog_9_method_3_code
def yX7_add : MethodName := ⟨RX7, "add", "(I)V"⟩
abbrev cX7_value : ByteArray := prog_9_method_4_code
def yX7_value : MethodName := ⟨RX7, "value", "(II[I)I"⟩
abbrev cX7_valueOf : ByteArray := prog_9_method_5_code
def yX7_valueOf : MethodName := ⟨RX7, "valueOf", "(III)I"⟩
abbrev cX7_joined : ByteArray := prog_9_method_6_code
def yX7_joined : MethodName := ⟨RX7, "joined", "(III)I"⟩
def RX8 : String := "FerryPlans$Rules"
def TX8 : u_T := fun k => match k with
  | 0 => ("FerryPlans$Rules", "told", "LFerryPlans$Told;", true)
  | 1 => ("FerryPlans$Rules", "latest", "LFerryPlans$Rule;", true)
  | 2 => ("FerryPlans$Rules", "stack", "[I", true)
  | _ => ("FerryPlans$Rules", "seen", "I", false)
def tyX8 : Nat → FieldType := fun k => match k with
  | 0 => .object "FerryPlans$Told"
  | 1 => .object "FerryPlans$Rule"
  | 2 => .array .int
  | _ => .int
abbrev wsX80 : List Cond := u_ws RX8 TX8 4
theorem nmX8 : ∀ a, a < 4 → ∀ b, b < 4 → a ≠ b → (TX8 a).2.1 ≠ (TX8 b).2.1 := by decide +kernel
theorem tyX8_ok : ∀ k, k < 4 → parseFieldDescriptor (TX8 k).2.2.1 = some (tyX8 k) := by decide +kernel
abbrev cX8_init : ByteArray := prog_10_method_1_code
def yX8_init : MethodName := ⟨RX8, "<init>", "(LFerryPlans$Told;)V"⟩
abbrev cX8_costOf : ByteArray := prog_10_method_2_code
def yX8_costOf : MethodName := ⟨RX8, "costOf", "(II)I"⟩
abbrev cX8_worstOver : ByteArray := prog_10_method_3_code
def yX8_worstOver : MethodName := ⟨RX8, "worstOver", "(II)I"⟩
abbrev cX8_mostLeft : ByteArray := prog_10_method_4_code
def yX8_mostLeft : MethodName := ⟨RX8, "mostLeft", "(III)I"⟩
abbrev cX8_hadAt : ByteArray := prog_10_method_5_code
def yX8_hadAt : MethodName := ⟨RX8, "hadAt", "(III)I"⟩
abbrev cX8_read : ByteArray := prog_10_method_6_code
def yX8_read : MethodName := ⟨RX8, "read", "(LFerryPlans$Text;I)V"⟩
abbrev cX8_keep : ByteArray := prog_10_method_7_code
def yX8_keep : MethodName := ⟨RX8, "keep", "(I)V"⟩
abbrev cX8_readSum : ByteArray := prog_10_method_8_code
def yX8_readSum : MethodName := ⟨RX8, "readSum", "(LFerryPlans$Text;I)V"⟩
abbrev cX8_readProduct : ByteArray := prog_10_method_9_code
def yX8_readProduct : MethodName := ⟨RX8, "readProduct", "(LFerryPlans$Text;I)V"⟩
abbrev cX8_readUnit : ByteArray := prog_10_method_10_code
def yX8_readUnit : MethodName := ⟨RX8, "readUnit", "(LFerryPlans$Text;I)V"⟩
abbrev cX8_readSeen : ByteArray := prog_10_method_11_code
def yX8_readSeen : MethodName := ⟨RX8, "readSeen", "(LFerryPlans$Text;)V"⟩
abbrev cX8_readNumber : ByteArray := prog_10_method_12_code
def yX8_readNumber : MethodName := ⟨RX8, "readNumber", "(LFerryPlans$Text;)V"⟩
def RX9 : String := "FerryPlans$Text"
def TX9 : u_T := fun k => match k with
  | 0 => ("FerryPlans$Text", "bytes", "[I", true)
  | 1 => ("FerryPlans$Text", "length", "I", false)
  | 2 => ("FerryPlans$Text", "at", "I", false)
  | _ => ("FerryPlans$Text", "fault", "I", false)
def tyX9 : Nat → FieldType := fun k => match k with
  | 0 => .array .int
  | 1 => .int
  | 2 => .int
  | _ => .int
abbrev wsX90 : List Cond := u_ws RX9 TX9 4
theorem nmX9 : ∀ a, a < 4 → ∀ b, b < 4 → a ≠ b → (TX9 a).2.1 ≠ (TX9 b).2.1 := by decide +kernel
theorem tyX9_ok : ∀ k, k < 4 → parseFieldDescriptor (TX9 k).2.2.1 = some (tyX9 k) := by decide +kernel
abbrev cX9_init : ByteArray := prog_11_method_1_code
def yX9_init : MethodName := ⟨RX9, "<init>", "()V"⟩
abbrev cX9_append : ByteArray := prog_11_method_2_code
def yX9_append : MethodName := ⟨RX9, "append", "(IJ)V"⟩
abbrev cX9_begin : ByteArray := prog_11_method_3_code
def yX9_begin : MethodName := ⟨RX9, "begin", "()V"⟩
abbrev cX9_peek : ByteArray := prog_11_method_4_code
def yX9_peek : MethodName := ⟨RX9, "peek", "()I"⟩
abbrev cX9_take : ByteArray := prog_11_method_5_code
def yX9_take : MethodName := ⟨RX9, "take", "(I)Z"⟩
abbrev cX9_atDigit : ByteArray := prog_11_method_6_code
def yX9_atDigit : MethodName := ⟨RX9, "atDigit", "()Z"⟩
abbrev cX9_digit : ByteArray := prog_11_method_7_code
def yX9_digit : MethodName := ⟨RX9, "digit", "()I"⟩
abbrev cX9_fail : ByteArray := prog_11_method_8_code
def yX9_fail : MethodName := ⟨RX9, "fail", "(I)V"⟩
abbrev cX9_end : ByteArray := prog_11_method_9_code
def yX9_end : MethodName := ⟨RX9, "end", "()V"⟩
def RX10 : String := "FerryPlans$Told"
def TX10 : u_T := fun k => match k with
  | 0 => ("FerryPlans$Told", "there", "I", false)
  | 1 => ("FerryPlans$Told", "numbers", "[I", true)
  | 2 => ("FerryPlans$Told", "laws", "I", false)
  | 3 => ("FerryPlans$Told", "holding", "I", false)
  | 4 => ("FerryPlans$Told", "lawWorlds", "[I", true)
  | 5 => ("FerryPlans$Told", "rules", "[LFerryPlans$Rule;", true)
  | 6 => ("FerryPlans$Told", "years", "I", false)
  | _ => ("FerryPlans$Told", "yearsOf", "[I", true)
def tyX10 : Nat → FieldType := fun k => match k with
  | 0 => .int
  | 1 => .array .int
  | 2 => .int
  | 3 => .int
  | 4 => .array .int
  | 5 => .array (.object "FerryPlans$Rule")
  | 6 => .int
  | _ => .array .int
abbrev wsX100 : List Cond := u_ws RX10 TX10 8
theorem nmX10 : ∀ a, a < 8 → ∀ b, b < 8 → a ≠ b → (TX10 a).2.1 ≠ (TX10 b).2.1 := by decide +kernel
theorem tyX10_ok : ∀ k, k < 8 → parseFieldDescriptor (TX10 k).2.2.1 = some (tyX10 k) := by decide +kernel
abbrev cX10_init : ByteArray := prog_12_method_1_code
def yX10_init : MethodName := ⟨RX10, "<init>", "()V"⟩
abbrev cX10_copy : ByteArray := prog_12_method_2_code
def yX10_copy : MethodName := ⟨RX10, "copy", "(LFerryPlans$Told;)V"⟩
abbrev cX10_isHarbour : ByteArray := prog_12_method_3_code
def yX10_isHarbour : MethodName := ⟨RX10, "isHarbour", "(I)Z"⟩
abbrev cX10_isWorld : ByteArray := prog_12_method_4_code
def yX10_isWorld : MethodName := ⟨RX10, "isWorld", "(I)Z"⟩
abbrev cX10_isPlan : ByteArray := prog_12_method_5_code
def yX10_isPlan : MethodName := ⟨RX10, "isPlan", "(I)Z"⟩
abbrev cX10_fare : ByteArray := prog_12_method_6_code
def yX10_fare : MethodName := ⟨RX10, "fare", "(I)I"⟩
abbrev cX10_balance : ByteArray := prog_12_method_7_code
def yX10_balance : MethodName := ⟨RX10, "balance", "(III)I"⟩
abbrev cX10_seenBy : ByteArray := prog_12_method_8_code
def yX10_seenBy : MethodName := ⟨RX10, "seenBy", "(I)I"⟩
abbrev cX10_worldsWith : ByteArray := prog_12_method_9_code
def yX10_worldsWith : MethodName := ⟨RX10, "worldsWith", "(I)I"⟩
abbrev cX10_addLaw : ByteArray := prog_12_method_10_code
def yX10_addLaw : MethodName := ⟨RX10, "addLaw", "(I)I"⟩
abbrev cX10_rulesTold : ByteArray := prog_12_method_11_code
def yX10_rulesTold : MethodName := ⟨RX10, "rulesTold", "()I"⟩
abbrev cX10_yearsIn : ByteArray := prog_12_method_12_code
def yX10_yearsIn : MethodName := ⟨RX10, "yearsIn", "(I)I"⟩
def RX11 : String := "FerryPlans"
def TX11 : u_T := fun k => match k with
  | 0 => ("FerryPlans", "told", "LFerryPlans$Told;", true)
  | 1 => ("FerryPlans", "kept", "LFerryPlans$Told;", true)
  | 2 => ("FerryPlans", "hasImage", "Z", false)
  | 3 => ("FerryPlans", "changes", "LFerryPlans$Changes;", true)
  | 4 => ("FerryPlans", "text", "LFerryPlans$Text;", true)
  | 5 => ("FerryPlans", "row", "[I", true)
  | 6 => ("FerryPlans", "rowLength", "I", false)
  | 7 => ("FerryPlans", "refusals", "[I", true)
  | 8 => ("FerryPlans", "rules", "LFerryPlans$Rules;", true)
  | 9 => ("FerryPlans", "costs", "LFerryPlans$Costs;", true)
  | 10 => ("FerryPlans", "closing", "LFerryPlans$Closing;", true)
  | _ => ("FerryPlans", "bearers", "LFerryPlans$Bearers;", true)
def tyX11 : Nat → FieldType := fun k => match k with
  | 0 => .object "FerryPlans$Told"
  | 1 => .object "FerryPlans$Told"
  | 2 => .boolean
  | 3 => .object "FerryPlans$Changes"
  | 4 => .object "FerryPlans$Text"
  | 5 => .array .int
  | 6 => .int
  | 7 => .array .int
  | 8 => .object "FerryPlans$Rules"
  | 9 => .object "FerryPlans$Costs"
  | 10 => .object "FerryPlans$Closing"
  | _ => .object "FerryPlans$Bearers"
abbrev wsX110 : List Cond := u_ws RX11 TX11 12
theorem nmX11 : ∀ a, a < 12 → ∀ b, b < 12 → a ≠ b → (TX11 a).2.1 ≠ (TX11 b).2.1 := by decide +kernel
theorem tyX11_ok : ∀ k, k < 12 → parseFieldDescriptor (TX11 k).2.2.1 = some (tyX11 k) := by decide +kernel
abbrev cX11_init : ByteArray := prog_1_method_1_code
def yX11_init : MethodName := ⟨RX11, "<init>", "()V"⟩
abbrev cX11_harbour : ByteArray := prog_1_method_2_code
def yX11_harbour : MethodName := ⟨RX11, "harbour", "(I)I"⟩
abbrev cX11_tell : ByteArray := prog_1_method_3_code
def yX11_tell : MethodName := ⟨RX11, "tell", "(III)I"⟩
abbrev cX11_move : ByteArray := prog_1_method_4_code
def yX11_move : MethodName := ⟨RX11, "move", "(III)I"⟩
abbrev cX11_set : ByteArray := prog_1_method_5_code
def yX11_set : MethodName := ⟨RX11, "set", "(II)I"⟩
abbrev cX11_undo : ByteArray := prog_1_method_6_code
def yX11_undo : MethodName := ⟨RX11, "undo", "()I"⟩
abbrev cX11_feed : ByteArray := prog_1_method_7_code
def yX11_feed : MethodName := ⟨RX11, "feed", "(IJ)I"⟩
abbrev cX11_law : ByteArray := prog_1_method_8_code
def yX11_law : MethodName := ⟨RX11, "law", "()I"⟩
abbrev cX11_holds : ByteArray := prog_1_method_9_code
def yX11_holds : MethodName := ⟨RX11, "holds", "(IZ)I"⟩
abbrev cX11_rule : ByteArray := prog_1_method_10_code
def yX11_rule : MethodName := ⟨RX11, "rule", "(II)I"⟩
abbrev cX11_unrule : ByteArray := prog_1_method_11_code
def yX11_unrule : MethodName := ⟨RX11, "unrule", "(I)I"⟩
abbrev cX11_inSet : ByteArray := prog_1_method_12_code
def yX11_inSet : MethodName := ⟨RX11, "inSet", "(I)I"⟩
abbrev cX11_later : ByteArray := prog_1_method_13_code
def yX11_later : MethodName := ⟨RX11, "later", "(II)I"⟩
abbrev cX11_cost : ByteArray := prog_1_method_14_code
def yX11_cost : MethodName := ⟨RX11, "cost", "(II)I"⟩
abbrev cX11_worst : ByteArray := prog_1_method_15_code
def yX11_worst : MethodName := ⟨RX11, "worst", "(II)I"⟩
abbrev cX11_best : ByteArray := prog_1_method_16_code
def yX11_best : MethodName := ⟨RX11, "best", "(I)I"⟩
abbrev cX11_byRules : ByteArray := prog_1_method_17_code
def yX11_byRules : MethodName := ⟨RX11, "byRules", "(II)I"⟩
abbrev cX11_ruled : ByteArray := prog_1_method_18_code
def yX11_ruled : MethodName := ⟨RX11, "ruled", "(II)I"⟩
abbrev cX11_close : ByteArray := prog_1_method_19_code
def yX11_close : MethodName := ⟨RX11, "close", "(II)I"⟩
abbrev cX11_put : ByteArray := prog_1_method_20_code
def yX11_put : MethodName := ⟨RX11, "put", "(I)I"⟩
abbrev cX11_prove : ByteArray := prog_1_method_21_code
def yX11_prove : MethodName := ⟨RX11, "prove", "(II)I"⟩
abbrev cX11_promise : ByteArray := prog_1_method_22_code
def yX11_promise : MethodName := ⟨RX11, "promise", "(III)I"⟩
abbrev cX11_corner : ByteArray := prog_1_method_23_code
def yX11_corner : MethodName := ⟨RX11, "corner", "(I)I"⟩
abbrev cX11_flat : ByteArray := prog_1_method_24_code
def yX11_flat : MethodName := ⟨RX11, "flat", "()I"⟩
abbrev cX11_foreknown : ByteArray := prog_1_method_25_code
def yX11_foreknown : MethodName := ⟨RX11, "foreknown", "(II)I"⟩
abbrev cX11_dearest : ByteArray := prog_1_method_26_code
def yX11_dearest : MethodName := ⟨RX11, "dearest", "()I"⟩
abbrev cX11_who : ByteArray := prog_1_method_27_code
def yX11_who : MethodName := ⟨RX11, "who", "(II)I"⟩
abbrev cX11_none : ByteArray := prog_1_method_28_code
def yX11_none : MethodName := ⟨RX11, "none", "(II)I"⟩
abbrev cX11_year : ByteArray := prog_1_method_29_code
def yX11_year : MethodName := ⟨RX11, "year", "(I)I"⟩
abbrev cX11_out : ByteArray := prog_1_method_30_code
def yX11_out : MethodName := ⟨RX11, "out", "()I"⟩
abbrev cX11_dearYears : ByteArray := prog_1_method_31_code
def yX11_dearYears : MethodName := ⟨RX11, "dearYears", "(I)I"⟩
abbrev cX11_drawn : ByteArray := prog_1_method_32_code
def yX11_drawn : MethodName := ⟨RX11, "drawn", "(I)I"⟩
abbrev cX11_image : ByteArray := prog_1_method_33_code
def yX11_image : MethodName := ⟨RX11, "image", "()I"⟩
abbrev cX11_restore : ByteArray := prog_1_method_34_code
def yX11_restore : MethodName := ⟨RX11, "restore", "()I"⟩
abbrev cX11_count : ByteArray := prog_1_method_35_code
def yX11_count : MethodName := ⟨RX11, "count", "(I)I"⟩
abbrev cX11_refuse : ByteArray := prog_1_method_36_code
def yX11_refuse : MethodName := ⟨RX11, "refuse", "(I)I"⟩
abbrev cX11_change : ByteArray := prog_1_method_37_code
def yX11_change : MethodName := ⟨RX11, "change", "(IIII)I"⟩
abbrev cX11_theSet : ByteArray := prog_1_method_38_code
def yX11_theSet : MethodName := ⟨RX11, "theSet", "()I"⟩
abbrev cX11_costWithWord : ByteArray := prog_1_method_39_code
def yX11_costWithWord : MethodName := ⟨RX11, "costWithWord", "(II)I"⟩
abbrev cX11_alike : ByteArray := prog_1_method_40_code
def yX11_alike : MethodName := ⟨RX11, "alike", "(III)I"⟩
def RX12 : String := "FerryPlansModel"
def TX12 : u_T := fun k => match k with
  | 0 => ("FerryPlansModel", "refused", "[I", true)
  | 1 => ("FerryPlansModel", "now", "[I", true)
  | 2 => ("FerryPlansModel", "isFound", "Z", false)
  | 3 => ("FerryPlansModel", "changed", "[I", true)
  | 4 => ("FerryPlansModel", "was", "[I", true)
  | 5 => ("FerryPlansModel", "changes", "I", false)
  | 6 => ("FerryPlansModel", "tape", "[I", true)
  | 7 => ("FerryPlansModel", "law", "[I", true)
  | 8 => ("FerryPlansModel", "lawSize", "[I", true)
  | 9 => ("FerryPlansModel", "rule", "[I", true)
  | 10 => ("FerryPlansModel", "ruleSize", "[I", true)
  | 11 => ("FerryPlansModel", "stack", "[I", true)
  | 12 => ("FerryPlansModel", "isOff", "[Z", true)
  | 13 => ("FerryPlansModel", "hasRule", "[Z", true)
  | 14 => ("FerryPlansModel", "taped", "I", false)
  | 15 => ("FerryPlansModel", "laws", "I", false)
  | 16 => ("FerryPlansModel", "at", "I", false)
  | 17 => ("FerryPlansModel", "top", "I", false)
  | 18 => ("FerryPlansModel", "waits", "[I", true)
  | 19 => ("FerryPlansModel", "values", "[I", true)
  | 20 => ("FerryPlansModel", "waiting", "I", false)
  | 21 => ("FerryPlansModel", "valued", "I", false)
  | 22 => ("FerryPlansModel", "read", "I", false)
  | 23 => ("FerryPlansModel", "spare", "[I", true)
  | 24 => ("FerryPlansModel", "lacks", "[I", true)
  | 25 => ("FerryPlansModel", "price", "[I", true)
  | 26 => ("FerryPlansModel", "best", "I", false)
  | 27 => ("FerryPlansModel", "one", "I", false)
  | 28 => ("FerryPlansModel", "other", "I", false)
  | 29 => ("FerryPlansModel", "costs", "[I", true)
  | 30 => ("FerryPlansModel", "isSet", "[Z", true)
  | 31 => ("FerryPlansModel", "plans", "[Z", true)
  | 32 => ("FerryPlansModel", "isLet", "[Z", true)
  | 33 => ("FerryPlansModel", "worstWorld", "I", false)
  | 34 => ("FerryPlansModel", "bestPlan", "I", false)
  | 35 => ("FerryPlansModel", "isBorne", "[Z", true)
  | 36 => ("FerryPlansModel", "row", "[I", true)
  | 37 => ("FerryPlansModel", "rowMany", "I", false)
  | 38 => ("FerryPlansModel", "years", "[I", true)
  | 39 => ("FerryPlansModel", "yearMany", "I", false)
  | 40 => ("FerryPlansModel", "keptNow", "[I", true)
  | 41 => ("FerryPlansModel", "keptLaw", "[I", true)
  | 42 => ("FerryPlansModel", "keptLawSize", "[I", true)
  | 43 => ("FerryPlansModel", "keptRule", "[I", true)
  | 44 => ("FerryPlansModel", "keptRuleSize", "[I", true)
  | 45 => ("FerryPlansModel", "keptYears", "[I", true)
  | 46 => ("FerryPlansModel", "keptOff", "[Z", true)
  | 47 => ("FerryPlansModel", "keptHas", "[Z", true)
  | 48 => ("FerryPlansModel", "keptLaws", "I", false)
  | 49 => ("FerryPlansModel", "keptYearMany", "I", false)
  | _ => ("FerryPlansModel", "hasImage", "Z", false)
def tyX12 : Nat → FieldType := fun k => match k with
  | 0 => .array .int
  | 1 => .array .int
  | 2 => .boolean
  | 3 => .array .int
  | 4 => .array .int
  | 5 => .int
  | 6 => .array .int
  | 7 => .array .int
  | 8 => .array .int
  | 9 => .array .int
  | 10 => .array .int
  | 11 => .array .int
  | 12 => .array .boolean
  | 13 => .array .boolean
  | 14 => .int
  | 15 => .int
  | 16 => .int
  | 17 => .int
  | 18 => .array .int
  | 19 => .array .int
  | 20 => .int
  | 21 => .int
  | 22 => .int
  | 23 => .array .int
  | 24 => .array .int
  | 25 => .array .int
  | 26 => .int
  | 27 => .int
  | 28 => .int
  | 29 => .array .int
  | 30 => .array .boolean
  | 31 => .array .boolean
  | 32 => .array .boolean
  | 33 => .int
  | 34 => .int
  | 35 => .array .boolean
  | 36 => .array .int
  | 37 => .int
  | 38 => .array .int
  | 39 => .int
  | 40 => .array .int
  | 41 => .array .int
  | 42 => .array .int
  | 43 => .array .int
  | 44 => .array .int
  | 45 => .array .int
  | 46 => .array .boolean
  | 47 => .array .boolean
  | 48 => .int
  | 49 => .int
  | _ => .boolean
abbrev wsX120 : List Cond := u_ws RX12 TX12 51
theorem nmX12 : ∀ a, a < 51 → ∀ b, b < 51 → a ≠ b → (TX12 a).2.1 ≠ (TX12 b).2.1 := by decide +kernel
theorem tyX12_ok : ∀ k, k < 51 → parseFieldDescriptor (TX12 k).2.2.1 = some (tyX12 k) := by decide +kernel
abbrev cX12_init : ByteArray := prog_14_method_1_code
def yX12_init : MethodName := ⟨RX12, "<init>", "()V"⟩
abbrev cX12_no : ByteArray := prog_14_method_2_code
def yX12_no : MethodName := ⟨RX12, "no", "(I)I"⟩
abbrev cX12_isIn : ByteArray := prog_14_method_3_code
def yX12_isIn : MethodName := ⟨RX12, "isIn", "(JJJ)Z"⟩
abbrev cX12_outOf : ByteArray := prog_14_method_4_code
def yX12_outOf : MethodName := ⟨RX12, "outOf", "(JJJ)I"⟩
abbrev cX12_isThere : ByteArray := prog_14_method_5_code
def yX12_isThere : MethodName := ⟨RX12, "isThere", "(I)Z"⟩
abbrev cX12_harbours : ByteArray := prog_14_method_6_code
def yX12_harbours : MethodName := ⟨RX12, "harbours", "()I"⟩
abbrev cX12_harbour : ByteArray := prog_14_method_7_code
def yX12_harbour : MethodName := ⟨RX12, "harbour", "(I)I"⟩
abbrev cX12_becomes : ByteArray := prog_14_method_8_code
def yX12_becomes : MethodName := ⟨RX12, "becomes", "(II)I"⟩
abbrev cX12_tell : ByteArray := prog_14_method_9_code
def yX12_tell : MethodName := ⟨RX12, "tell", "(III)I"⟩
abbrev cX12_move : ByteArray := prog_14_method_10_code
def yX12_move : MethodName := ⟨RX12, "move", "(III)I"⟩
abbrev cX12_set : ByteArray := prog_14_method_11_code
def yX12_set : MethodName := ⟨RX12, "set", "(II)I"⟩
abbrev cX12_undo : ByteArray := prog_14_method_12_code
def yX12_undo : MethodName := ⟨RX12, "undo", "()I"⟩
abbrev cX12_isWorld : ByteArray := prog_14_method_13_code
def yX12_isWorld : MethodName := ⟨RX12, "isWorld", "(I)Z"⟩
abbrev cX12_ferries : ByteArray := prog_14_method_14_code
def yX12_ferries : MethodName := ⟨RX12, "ferries", "(II)I"⟩
abbrev cX12_isPlan : ByteArray := prog_14_method_15_code
def yX12_isPlan : MethodName := ⟨RX12, "isPlan", "(I)Z"⟩
abbrev cX12_feed : ByteArray := prog_14_method_16_code
def yX12_feed : MethodName := ⟨RX12, "feed", "(IJ)I"⟩
abbrev cX12_sign : ByteArray := prog_14_method_17_code
def yX12_sign : MethodName := ⟨RX12, "sign", "()I"⟩
abbrev cX12_isDigit : ByteArray := prog_14_method_18_code
def yX12_isDigit : MethodName := ⟨RX12, "isDigit", "(I)Z"⟩
abbrev cX12_digit : ByteArray := prog_14_method_19_code
def yX12_digit : MethodName := ⟨RX12, "digit", "()Z"⟩
abbrev cX12_part : ByteArray := prog_14_method_20_code
def yX12_part : MethodName := ⟨RX12, "part", "()Z"⟩
abbrev cX12_closes : ByteArray := prog_14_method_21_code
def yX12_closes : MethodName := ⟨RX12, "closes", "()V"⟩
abbrev cX12_isLaw : ByteArray := prog_14_method_22_code
def yX12_isLaw : MethodName := ⟨RX12, "isLaw", "()Z"⟩
abbrev cX12_law : ByteArray := prog_14_method_23_code
def yX12_law : MethodName := ⟨RX12, "law", "()I"⟩
abbrev cX12_holds : ByteArray := prog_14_method_24_code
def yX12_holds : MethodName := ⟨RX12, "holds", "(IZ)I"⟩
abbrev cX12_unit : ByteArray := prog_14_method_25_code
def yX12_unit : MethodName := ⟨RX12, "unit", "(I)Z"⟩
abbrev cX12_isRule : ByteArray := prog_14_method_26_code
def yX12_isRule : MethodName := ⟨RX12, "isRule", "(I)Z"⟩
abbrev cX12_rule : ByteArray := prog_14_method_27_code
def yX12_rule : MethodName := ⟨RX12, "rule", "(II)I"⟩
abbrev cX12_unrule : ByteArray := prog_14_method_28_code
def yX12_unrule : MethodName := ⟨RX12, "unrule", "(I)I"⟩
abbrev cX12_push : ByteArray := prog_14_method_29_code
def yX12_push : MethodName := ⟨RX12, "push", "(I)V"⟩
abbrev cX12_waitsFor : ByteArray := prog_14_method_30_code
def yX12_waitsFor : MethodName := ⟨RX12, "waitsFor", "(I)V"⟩
abbrev cX12_bits : ByteArray := prog_14_method_31_code
def yX12_bits : MethodName := ⟨RX12, "bits", "(I)I"⟩
abbrev cX12_lawSign : ByteArray := prog_14_method_32_code
def yX12_lawSign : MethodName := ⟨RX12, "lawSign", "(I)I"⟩
abbrev cX12_rank : ByteArray := prog_14_method_33_code
def yX12_rank : MethodName := ⟨RX12, "rank", "(I)I"⟩
abbrev cX12_works : ByteArray := prog_14_method_34_code
def yX12_works : MethodName := ⟨RX12, "works", "(I)V"⟩
abbrev cX12_compared : ByteArray := prog_14_method_35_code
def yX12_compared : MethodName := ⟨RX12, "compared", "(II)I"⟩
abbrev cX12_letsBy : ByteArray := prog_14_method_36_code
def yX12_letsBy : MethodName := ⟨RX12, "letsBy", "(II)Z"⟩
abbrev cX12_ruleWorth : ByteArray := prog_14_method_37_code
def yX12_ruleWorth : MethodName := ⟨RX12, "ruleWorth", "(III)I"⟩
abbrev cX12_findLacks : ByteArray := prog_14_method_38_code
def yX12_findLacks : MethodName := ⟨RX12, "findLacks", "(II)V"⟩
abbrev cX12_least : ByteArray := prog_14_method_39_code
def yX12_least : MethodName := ⟨RX12, "least", "(II)I"⟩
abbrev cX12_worth : ByteArray := prog_14_method_40_code
def yX12_worth : MethodName := ⟨RX12, "worth", "()I"⟩
abbrev cX12_priceOf : ByteArray := prog_14_method_41_code
def yX12_priceOf : MethodName := ⟨RX12, "priceOf", "(II)I"⟩
abbrev cX12_tries : ByteArray := prog_14_method_42_code
def yX12_tries : MethodName := ⟨RX12, "tries", "()V"⟩
abbrev cX12_triesTwo : ByteArray := prog_14_method_43_code
def yX12_triesTwo : MethodName := ⟨RX12, "triesTwo", "(II)V"⟩
abbrev cX12_triesLevel : ByteArray := prog_14_method_44_code
def yX12_triesLevel : MethodName := ⟨RX12, "triesLevel", "(II)V"⟩
abbrev cX12_laterOf : ByteArray := prog_14_method_45_code
def yX12_laterOf : MethodName := ⟨RX12, "laterOf", "(II)I"⟩
abbrev cX12_lets : ByteArray := prog_14_method_46_code
def yX12_lets : MethodName := ⟨RX12, "lets", "(I)Z"⟩
abbrev cX12_hired : ByteArray := prog_14_method_47_code
def yX12_hired : MethodName := ⟨RX12, "hired", "(I)I"⟩
abbrev cX12_finds : ByteArray := prog_14_method_48_code
def yX12_finds : MethodName := ⟨RX12, "finds", "()V"⟩
abbrev cX12_draws : ByteArray := prog_14_method_49_code
def yX12_draws : MethodName := ⟨RX12, "draws", "(I)V"⟩
abbrev cX12_inSet : ByteArray := prog_14_method_50_code
def yX12_inSet : MethodName := ⟨RX12, "inSet", "(I)I"⟩
abbrev cX12_later : ByteArray := prog_14_method_51_code
def yX12_later : MethodName := ⟨RX12, "later", "(II)I"⟩
abbrev cX12_cost : ByteArray := prog_14_method_52_code
def yX12_cost : MethodName := ⟨RX12, "cost", "(II)I"⟩
abbrev cX12_worstOf : ByteArray := prog_14_method_53_code
def yX12_worstOf : MethodName := ⟨RX12, "worstOf", "(III)I"⟩
abbrev cX12_worst : ByteArray := prog_14_method_54_code
def yX12_worst : MethodName := ⟨RX12, "worst", "(II)I"⟩
abbrev cX12_bestOf : ByteArray := prog_14_method_55_code
def yX12_bestOf : MethodName := ⟨RX12, "bestOf", "(II)I"⟩
abbrev cX12_best : ByteArray := prog_14_method_56_code
def yX12_best : MethodName := ⟨RX12, "best", "(I)I"⟩
abbrev cX12_leftOf : ByteArray := prog_14_method_57_code
def yX12_leftOf : MethodName := ⟨RX12, "leftOf", "(III)I"⟩
abbrev cX12_hadOf : ByteArray := prog_14_method_58_code
def yX12_hadOf : MethodName := ⟨RX12, "hadOf", "(III)I"⟩
abbrev cX12_byRulesOf : ByteArray := prog_14_method_59_code
def yX12_byRulesOf : MethodName := ⟨RX12, "byRulesOf", "(II)I"⟩
abbrev cX12_byRules : ByteArray := prog_14_method_60_code
def yX12_byRules : MethodName := ⟨RX12, "byRules", "(II)I"⟩
abbrev cX12_ruled : ByteArray := prog_14_method_61_code
def yX12_ruled : MethodName := ⟨RX12, "ruled", "(II)I"⟩
abbrev cX12_borneMost : ByteArray := prog_14_method_62_code
def yX12_borneMost : MethodName := ⟨RX12, "borneMost", "(I)I"⟩
abbrev cX12_close : ByteArray := prog_14_method_63_code
def yX12_close : MethodName := ⟨RX12, "close", "(II)I"⟩
abbrev cX12_put : ByteArray := prog_14_method_64_code
def yX12_put : MethodName := ⟨RX12, "put", "(I)I"⟩
abbrev cX12_fails : ByteArray := prog_14_method_65_code
def yX12_fails : MethodName := ⟨RX12, "fails", "()I"⟩
abbrev cX12_prove : ByteArray := prog_14_method_66_code
def yX12_prove : MethodName := ⟨RX12, "prove", "(II)I"⟩
abbrev cX12_promise : ByteArray := prog_14_method_67_code
def yX12_promise : MethodName := ⟨RX12, "promise", "(III)I"⟩
abbrev cX12_corner : ByteArray := prog_14_method_68_code
def yX12_corner : MethodName := ⟨RX12, "corner", "(I)I"⟩
abbrev cX12_flat : ByteArray := prog_14_method_69_code
def yX12_flat : MethodName := ⟨RX12, "flat", "()I"⟩
abbrev cX12_known : ByteArray := prog_14_method_70_code
def yX12_known : MethodName := ⟨RX12, "known", "(I)I"⟩
abbrev cX12_foreknown : ByteArray := prog_14_method_71_code
def yX12_foreknown : MethodName := ⟨RX12, "foreknown", "(II)I"⟩
abbrev cX12_dearest : ByteArray := prog_14_method_72_code
def yX12_dearest : MethodName := ⟨RX12, "dearest", "()I"⟩
abbrev cX12_who : ByteArray := prog_14_method_73_code
def yX12_who : MethodName := ⟨RX12, "who", "(II)I"⟩
abbrev cX12_isNoneFor : ByteArray := prog_14_method_74_code
def yX12_isNoneFor : MethodName := ⟨RX12, "isNoneFor", "(II)Z"⟩
abbrev cX12_none : ByteArray := prog_14_method_75_code
def yX12_none : MethodName := ⟨RX12, "none", "(II)I"⟩
abbrev cX12_year : ByteArray := prog_14_method_76_code
def yX12_year : MethodName := ⟨RX12, "year", "(I)I"⟩
abbrev cX12_out : ByteArray := prog_14_method_77_code
def yX12_out : MethodName := ⟨RX12, "out", "()I"⟩
abbrev cX12_dearYears : ByteArray := prog_14_method_78_code
def yX12_dearYears : MethodName := ⟨RX12, "dearYears", "(I)I"⟩
abbrev cX12_drawn : ByteArray := prog_14_method_79_code
def yX12_drawn : MethodName := ⟨RX12, "drawn", "(I)I"⟩
abbrev cX12_image : ByteArray := prog_14_method_80_code
def yX12_image : MethodName := ⟨RX12, "image", "()I"⟩
abbrev cX12_restore : ByteArray := prog_14_method_81_code
def yX12_restore : MethodName := ⟨RX12, "restore", "()I"⟩
abbrev cX12_count : ByteArray := prog_14_method_82_code
def yX12_count : MethodName := ⟨RX12, "count", "(I)I"⟩
def RJ6 : String := "java/lang/Integer"
def TJ6 : u_T := fun k => match k with
  | _ => ("", "", "", false)
def tyJ6 : Nat → FieldType := fun k => match k with
  | _ => .int
abbrev wsJ60 : List Cond := u_ws RJ6 TJ6 0
theorem nmJ6 : ∀ a, a < 0 → ∀ b, b < 0 → a ≠ b → (TJ6 a).2.1 ≠ (TJ6 b).2.1 := by decide +kernel
theorem tyJ6_ok : ∀ k, k < 0 → parseFieldDescriptor (TJ6 k).2.2.1 = some (tyJ6 k) := by decide +kernel
abbrev cJ6_bitCount_0f7a4 : ByteArray := prog_15_method_49_code
def yJ6_bitCount_0f7a4 : MethodName := ⟨RJ6, "bitCount", "(I)I"⟩
def RJ9 : String := "java/lang/Math"
def TJ9 : u_T := fun k => match k with
  | _ => ("", "", "", false)
def tyJ9 : Nat → FieldType := fun k => match k with
  | _ => .int
abbrev wsJ90 : List Cond := u_ws RJ9 TJ9 0
theorem nmJ9 : ∀ a, a < 0 → ∀ b, b < 0 → a ≠ b → (TJ9 a).2.1 ≠ (TJ9 b).2.1 := by decide +kernel
theorem tyJ9_ok : ∀ k, k < 0 → parseFieldDescriptor (TJ9 k).2.2.1 = some (tyJ9 k) := by decide +kernel
abbrev cJ9_max_7cf53 : ByteArray := prog_16_method_65_code
def yJ9_max_7cf53 : MethodName := ⟨RJ9, "max", "(II)I"⟩
abbrev cJ9_min_7cf53 : ByteArray := prog_16_method_69_code
def yJ9_min_7cf53 : MethodName := ⟨RJ9, "min", "(II)I"⟩
def RJ10 : String := "java/lang/System"
def TJ10 : u_T := fun k => match k with
  | _ => ("", "", "", false)
def tyJ10 : Nat → FieldType := fun k => match k with
  | _ => .int
abbrev wsJ100 : List Cond := u_ws RJ10 TJ10 0
theorem nmJ10 : ∀ a, a < 0 → ∀ b, b < 0 → a ≠ b → (TJ10 a).2.1 ≠ (TJ10 b).2.1 := by decide +kernel
theorem tyJ10_ok : ∀ k, k < 0 → parseFieldDescriptor (TJ10 k).2.2.1 = some (tyJ10 k) := by decide +kernel
def RJ7 : String := "java/util/Arrays"
def TJ7 : u_T := fun k => match k with
  | _ => ("", "", "", false)
def tyJ7 : Nat → FieldType := fun k => match k with
  | _ => .int
abbrev wsJ70 : List Cond := u_ws RJ7 TJ7 0
theorem nmJ7 : ∀ a, a < 0 → ∀ b, b < 0 → a ≠ b → (TJ7 a).2.1 ≠ (TJ7 b).2.1 := by decide +kernel
theorem tyJ7_ok : ∀ k, k < 0 → parseFieldDescriptor (TJ7 k).2.2.1 = some (tyJ7 k) := by decide +kernel
abbrev cJ7_fill_d0a16 : ByteArray := prog_18_method_101_code
def yJ7_fill_d0a16 : MethodName := ⟨RJ7, "fill", "([JJ)V"⟩
abbrev cJ7_fill_53178 : ByteArray := prog_18_method_103_code
def yJ7_fill_53178 : MethodName := ⟨RJ7, "fill", "([II)V"⟩
def RL : String := "FerryPlansLaw"
abbrev cL_law : ByteArray := code
def yL_law : MethodName := ⟨RL, "law", "([I)Z"⟩
abbrev vwCl : List vw_C := [(RX0, TX0, 2), (RX1, TX1, 4), (RX2, TX2, 7), (RX3, TX3, 5), (RX4, TX4, 12), (RX7, TX7, 2), (RX8, TX8, 4), (RX9, TX9, 4), (RX10, TX10, 8), (RX11, TX11, 12), (RX12, TX12, 51)]
end
section
theorem dX0_init_0 : decode cX0_init 0 = .ok (.aload_n 0, 1) := by decide +kernel
theorem dX0_init_1 : decode cX0_init 1 = .ok (.invokespecial 3, 3) := by decide +kernel
theorem dX0_init_4 : decode cX0_init 4 = .ok (.aload_n 0, 1) := by decide +kernel
theorem dX0_init_5 : decode cX0_init 5 = .ok (.bipush 64, 2) := by decide +kernel
theorem dX0_init_7 : decode cX0_init 7 = .ok (.newarray .long, 2) := by decide +kernel
theorem dX0_init_9 : decode cX0_init 9 = .ok (.putfield 11, 3) := by decide +kernel
theorem dX0_init_12 : decode cX0_init 12 = .ok (.aload_n 0, 1) := by decide +kernel
theorem dX0_init_13 : decode cX0_init 13 = .ok (.aload_n 1, 1) := by decide +kernel
theorem dX0_init_14 : decode cX0_init 14 = .ok (.putfield 15, 3) := by decide +kernel
theorem dX0_init_17 : decode cX0_init 17 = .ok (.return_, 1) := by decide +kernel
theorem dX0_fewest_0 : decode cX0_fewest 0 = .ok (.iload_n 1, 1) := by decide +kernel
theorem dX0_fewest_1 : decode cX0_fewest 1 = .ok (.ifCond .eq 15, 3) := by decide +kernel
theorem dX0_fewest_4 : decode cX0_fewest 4 = .ok (.aload_n 0, 1) := by decide +kernel
theorem dX0_fewest_5 : decode cX0_fewest 5 = .ok (.getfield 15, 3) := by decide +kernel
theorem dX0_fewest_8 : decode cX0_fewest 8 = .ok (.iload_n 1, 1) := by decide +kernel
theorem dX0_fewest_9 : decode cX0_fewest 9 = .ok (.invokevirtual 19, 3) := by decide +kernel
theorem dX0_fewest_12 : decode cX0_fewest 12 = .ok (.iload_n 2, 1) := by decide +kernel
theorem dX0_fewest_13 : decode cX0_fewest 13 = .ok (.if_icmp .gt 5, 3) := by decide +kernel
theorem dX0_fewest_16 : decode cX0_fewest 16 = .ok (.iconst 0, 1) := by decide +kernel
theorem dX0_fewest_17 : decode cX0_fewest 17 = .ok (.ireturn, 1) := by decide +kernel
theorem dX0_fewest_18 : decode cX0_fewest 18 = .ok (.aload_n 0, 1) := by decide +kernel
theorem dX0_fewest_19 : decode cX0_fewest 19 = .ok (.iload_n 1, 1) := by decide +kernel
theorem dX0_fewest_20 : decode cX0_fewest 20 = .ok (.iload_n 2, 1) := by decide +kernel
theorem dX0_fewest_21 : decode cX0_fewest 21 = .ok (.invokevirtual 25, 3) := by decide +kernel
theorem dX0_fewest_24 : decode cX0_fewest 24 = .ok (.iconst 1, 1) := by decide +kernel
theorem dX0_fewest_25 : decode cX0_fewest 25 = .ok (.istore_n 3, 1) := by decide +kernel
theorem dX0_fewest_26 : decode cX0_fewest 26 = .ok (.iload_n 3, 1) := by decide +kernel
theorem dX0_fewest_27 : decode cX0_fewest 27 = .ok (.iconst 3, 1) := by decide +kernel
theorem dX0_fewest_28 : decode cX0_fewest 28 = .ok (.if_icmp .gt 25, 3) := by decide +kernel
theorem dX0_fewest_31 : decode cX0_fewest 31 = .ok (.aload_n 0, 1) := by decide +kernel
theorem dX0_fewest_32 : decode cX0_fewest 32 = .ok (.iload_n 3, 1) := by decide +kernel
theorem dX0_fewest_33 : decode cX0_fewest 33 = .ok (.iload_n 1, 1) := by decide +kernel
theorem dX0_fewest_34 : decode cX0_fewest 34 = .ok (.invokevirtual 29, 3) := by decide +kernel
theorem dX0_fewest_37 : decode cX0_fewest 37 = .ok (.istore 4, 2) := by decide +kernel
theorem dX0_fewest_39 : decode cX0_fewest 39 = .ok (.iload 4, 2) := by decide +kernel
theorem dX0_fewest_41 : decode cX0_fewest 41 = .ok (.ifCond .eq 6, 3) := by decide +kernel
theorem dX0_fewest_44 : decode cX0_fewest 44 = .ok (.iload 4, 2) := by decide +kernel
theorem dX0_fewest_46 : decode cX0_fewest 46 = .ok (.ireturn, 1) := by decide +kernel
theorem dX0_fewest_47 : decode cX0_fewest 47 = .ok (.iinc 3 1, 3) := by decide +kernel
theorem dX0_fewest_50 : decode cX0_fewest 50 = .ok (.goto (-24), 3) := by decide +kernel
theorem dX0_fewest_53 : decode cX0_fewest 53 = .ok (.iconst 0, 1) := by decide +kernel
theorem dX0_fewest_54 : decode cX0_fewest 54 = .ok (.ireturn, 1) := by decide +kernel
theorem dX0_find_0 : decode cX0_find 0 = .ok (.aload_n 0, 1) := by decide +kernel
theorem dX0_find_1 : decode cX0_find 1 = .ok (.getfield 11, 3) := by decide +kernel
theorem dX0_find_4 : decode cX0_find 4 = .ok (.lconst 0, 1) := by decide +kernel
theorem dX0_find_5 : decode cX0_find 5 = .ok (.invokestatic 33, 3) := by decide +kernel
theorem dX0_find_8 : decode cX0_find 8 = .ok (.iconst 0, 1) := by decide +kernel
theorem dX0_find_9 : decode cX0_find 9 = .ok (.istore_n 3, 1) := by decide +kernel
theorem dX0_find_10 : decode cX0_find 10 = .ok (.iload_n 3, 1) := by decide +kernel
theorem dX0_find_11 : decode cX0_find 11 = .ok (.sipush 256, 3) := by decide +kernel
theorem dX0_find_14 : decode cX0_find 14 = .ok (.if_icmp .ge 104, 3) := by decide +kernel
theorem dX0_find_17 : decode cX0_find 17 = .ok (.aload_n 0, 1) := by decide +kernel
theorem dX0_find_18 : decode cX0_find 18 = .ok (.getfield 15, 3) := by decide +kernel
theorem dX0_find_21 : decode cX0_find 21 = .ok (.getfield 39, 3) := by decide +kernel
theorem dX0_find_24 : decode cX0_find 24 = .ok (.iload_n 3, 1) := by decide +kernel
theorem dX0_find_25 : decode cX0_find 25 = .ok (.invokevirtual 43, 3) := by decide +kernel
theorem dX0_find_28 : decode cX0_find 28 = .ok (.ifCond .eq 84, 3) := by decide +kernel
theorem dX0_find_31 : decode cX0_find 31 = .ok (.aload_n 0, 1) := by decide +kernel
theorem dX0_find_32 : decode cX0_find 32 = .ok (.getfield 15, 3) := by decide +kernel
theorem dX0_find_35 : decode cX0_find 35 = .ok (.getfield 39, 3) := by decide +kernel
theorem dX0_find_38 : decode cX0_find 38 = .ok (.iload_n 3, 1) := by decide +kernel
theorem dX0_find_39 : decode cX0_find 39 = .ok (.invokevirtual 49, 3) := by decide +kernel
theorem dX0_find_42 : decode cX0_find 42 = .ok (.iload_n 2, 1) := by decide +kernel
theorem dX0_find_43 : decode cX0_find 43 = .ok (.if_icmp .le 6, 3) := by decide +kernel
theorem dX0_find_46 : decode cX0_find 46 = .ok (.goto 66, 3) := by decide +kernel
theorem dX0_find_49 : decode cX0_find 49 = .ok (.iconst 0, 1) := by decide +kernel
theorem dX0_find_50 : decode cX0_find 50 = .ok (.istore 4, 2) := by decide +kernel
theorem dX0_find_52 : decode cX0_find 52 = .ok (.iload 4, 2) := by decide +kernel
theorem dX0_find_54 : decode cX0_find 54 = .ok (.bipush 16, 2) := by decide +kernel
theorem dX0_find_56 : decode cX0_find 56 = .ok (.if_icmp .ge 56, 3) := by decide +kernel
theorem dX0_find_59 : decode cX0_find 59 = .ok (.iload_n 1, 1) := by decide +kernel
theorem dX0_find_60 : decode cX0_find 60 = .ok (.iload 4, 2) := by decide +kernel
theorem dX0_find_62 : decode cX0_find 62 = .ok (.ishr, 1) := by decide +kernel
theorem dX0_find_63 : decode cX0_find 63 = .ok (.iconst 1, 1) := by decide +kernel
theorem dX0_find_64 : decode cX0_find 64 = .ok (.iand, 1) := by decide +kernel
theorem dX0_find_65 : decode cX0_find 65 = .ok (.iconst 1, 1) := by decide +kernel
theorem dX0_find_66 : decode cX0_find 66 = .ok (.if_icmp .ne 40, 3) := by decide +kernel
theorem dX0_find_69 : decode cX0_find 69 = .ok (.aload_n 0, 1) := by decide +kernel
theorem dX0_find_70 : decode cX0_find 70 = .ok (.getfield 15, 3) := by decide +kernel
theorem dX0_find_73 : decode cX0_find 73 = .ok (.iload_n 3, 1) := by decide +kernel
theorem dX0_find_74 : decode cX0_find 74 = .ok (.iload 4, 2) := by decide +kernel
theorem dX0_find_76 : decode cX0_find 76 = .ok (.invokevirtual 52, 3) := by decide +kernel
theorem dX0_find_79 : decode cX0_find 79 = .ok (.iload_n 2, 1) := by decide +kernel
theorem dX0_find_80 : decode cX0_find 80 = .ok (.if_icmp .gt 26, 3) := by decide +kernel
theorem dX0_find_83 : decode cX0_find 83 = .ok (.aload_n 0, 1) := by decide +kernel
theorem dX0_find_84 : decode cX0_find 84 = .ok (.getfield 11, 3) := by decide +kernel
theorem dX0_find_87 : decode cX0_find 87 = .ok (.iload 4, 2) := by decide +kernel
theorem dX0_find_89 : decode cX0_find 89 = .ok (.iconst 4, 1) := by decide +kernel
theorem dX0_find_90 : decode cX0_find 90 = .ok (.imul, 1) := by decide +kernel
theorem dX0_find_91 : decode cX0_find 91 = .ok (.iload_n 3, 1) := by decide +kernel
theorem dX0_find_92 : decode cX0_find 92 = .ok (.bipush 64, 2) := by decide +kernel
theorem dX0_find_94 : decode cX0_find 94 = .ok (.idiv, 1) := by decide +kernel
theorem dX0_find_95 : decode cX0_find 95 = .ok (.iadd, 1) := by decide +kernel
theorem dX0_find_96 : decode cX0_find 96 = .ok (.dup2, 1) := by decide +kernel
theorem dX0_find_97 : decode cX0_find 97 = .ok (.laload, 1) := by decide +kernel
theorem dX0_find_98 : decode cX0_find 98 = .ok (.lconst 1, 1) := by decide +kernel
theorem dX0_find_99 : decode cX0_find 99 = .ok (.iload_n 3, 1) := by decide +kernel
theorem dX0_find_100 : decode cX0_find 100 = .ok (.bipush 64, 2) := by decide +kernel
theorem dX0_find_102 : decode cX0_find 102 = .ok (.irem, 1) := by decide +kernel
theorem dX0_find_103 : decode cX0_find 103 = .ok (.lshl, 1) := by decide +kernel
theorem dX0_find_104 : decode cX0_find 104 = .ok (.lor, 1) := by decide +kernel
theorem dX0_find_105 : decode cX0_find 105 = .ok (.lastore, 1) := by decide +kernel
theorem dX0_find_106 : decode cX0_find 106 = .ok (.iinc 4 1, 3) := by decide +kernel
theorem dX0_find_109 : decode cX0_find 109 = .ok (.goto (-57), 3) := by decide +kernel
theorem dX0_find_112 : decode cX0_find 112 = .ok (.iinc 3 1, 3) := by decide +kernel
theorem dX0_find_115 : decode cX0_find 115 = .ok (.goto (-105), 3) := by decide +kernel
theorem dX0_find_118 : decode cX0_find 118 = .ok (.return_, 1) := by decide +kernel
theorem dX0_leastOf_0 : decode cX0_leastOf 0 = .ok (.iconst 0, 1) := by decide +kernel
theorem dX0_leastOf_1 : decode cX0_leastOf 1 = .ok (.istore_n 3, 1) := by decide +kernel
theorem dX0_leastOf_2 : decode cX0_leastOf 2 = .ok (.iload_n 3, 1) := by decide +kernel
theorem dX0_leastOf_3 : decode cX0_leastOf 3 = .ok (.bipush 16, 2) := by decide +kernel
theorem dX0_leastOf_5 : decode cX0_leastOf 5 = .ok (.if_icmp .ge 91, 3) := by decide +kernel
theorem dX0_leastOf_8 : decode cX0_leastOf 8 = .ok (.iconst 0, 1) := by decide +kernel
theorem dX0_leastOf_9 : decode cX0_leastOf 9 = .ok (.istore 4, 2) := by decide +kernel
theorem dX0_leastOf_11 : decode cX0_leastOf 11 = .ok (.iload 4, 2) := by decide +kernel
theorem dX0_leastOf_13 : decode cX0_leastOf 13 = .ok (.iload_n 3, 1) := by decide +kernel
theorem dX0_leastOf_14 : decode cX0_leastOf 14 = .ok (.if_icmp .gt 76, 3) := by decide +kernel
theorem dX0_leastOf_17 : decode cX0_leastOf 17 = .ok (.iconst 0, 1) := by decide +kernel
theorem dX0_leastOf_18 : decode cX0_leastOf 18 = .ok (.istore 5, 2) := by decide +kernel
theorem dX0_leastOf_20 : decode cX0_leastOf 20 = .ok (.iload 5, 2) := by decide +kernel
theorem dX0_leastOf_22 : decode cX0_leastOf 22 = .ok (.iload 4, 2) := by decide +kernel
theorem dX0_leastOf_24 : decode cX0_leastOf 24 = .ok (.if_icmp .gt 60, 3) := by decide +kernel
theorem dX0_leastOf_27 : decode cX0_leastOf 27 = .ok (.iconst 1, 1) := by decide +kernel
theorem dX0_leastOf_28 : decode cX0_leastOf 28 = .ok (.iload_n 3, 1) := by decide +kernel
theorem dX0_leastOf_29 : decode cX0_leastOf 29 = .ok (.ishl, 1) := by decide +kernel
theorem dX0_leastOf_30 : decode cX0_leastOf 30 = .ok (.iconst 1, 1) := by decide +kernel
theorem dX0_leastOf_31 : decode cX0_leastOf 31 = .ok (.iload 4, 2) := by decide +kernel
theorem dX0_leastOf_33 : decode cX0_leastOf 33 = .ok (.ishl, 1) := by decide +kernel
theorem dX0_leastOf_34 : decode cX0_leastOf 34 = .ok (.ior, 1) := by decide +kernel
theorem dX0_leastOf_35 : decode cX0_leastOf 35 = .ok (.iconst 1, 1) := by decide +kernel
theorem dX0_leastOf_36 : decode cX0_leastOf 36 = .ok (.iload 5, 2) := by decide +kernel
theorem dX0_leastOf_38 : decode cX0_leastOf 38 = .ok (.ishl, 1) := by decide +kernel
theorem dX0_leastOf_39 : decode cX0_leastOf 39 = .ok (.ior, 1) := by decide +kernel
theorem dX0_leastOf_40 : decode cX0_leastOf 40 = .ok (.istore 6, 2) := by decide +kernel
theorem dX0_leastOf_42 : decode cX0_leastOf 42 = .ok (.iload 6, 2) := by decide +kernel
theorem dX0_leastOf_44 : decode cX0_leastOf 44 = .ok (.invokestatic 55, 3) := by decide +kernel
theorem dX0_leastOf_47 : decode cX0_leastOf 47 = .ok (.iload_n 1, 1) := by decide +kernel
theorem dX0_leastOf_48 : decode cX0_leastOf 48 = .ok (.if_icmp .ne 30, 3) := by decide +kernel
theorem dX0_leastOf_51 : decode cX0_leastOf 51 = .ok (.iload 6, 2) := by decide +kernel
theorem dX0_leastOf_53 : decode cX0_leastOf 53 = .ok (.iload_n 2, 1) := by decide +kernel
theorem dX0_leastOf_54 : decode cX0_leastOf 54 = .ok (.iconst (-1), 1) := by decide +kernel
theorem dX0_leastOf_55 : decode cX0_leastOf 55 = .ok (.ixor, 1) := by decide +kernel
theorem dX0_leastOf_56 : decode cX0_leastOf 56 = .ok (.iand, 1) := by decide +kernel
theorem dX0_leastOf_57 : decode cX0_leastOf 57 = .ok (.ifCond .eq 6, 3) := by decide +kernel
theorem dX0_leastOf_60 : decode cX0_leastOf 60 = .ok (.goto 18, 3) := by decide +kernel
theorem dX0_leastOf_63 : decode cX0_leastOf 63 = .ok (.aload_n 0, 1) := by decide +kernel
theorem dX0_leastOf_64 : decode cX0_leastOf 64 = .ok (.iload_n 3, 1) := by decide +kernel
theorem dX0_leastOf_65 : decode cX0_leastOf 65 = .ok (.iload 4, 2) := by decide +kernel
theorem dX0_leastOf_67 : decode cX0_leastOf 67 = .ok (.iload 5, 2) := by decide +kernel
theorem dX0_leastOf_69 : decode cX0_leastOf 69 = .ok (.invokevirtual 60, 3) := by decide +kernel
theorem dX0_leastOf_72 : decode cX0_leastOf 72 = .ok (.ifCond .eq 6, 3) := by decide +kernel
theorem dX0_leastOf_75 : decode cX0_leastOf 75 = .ok (.iload 6, 2) := by decide +kernel
theorem dX0_leastOf_77 : decode cX0_leastOf 77 = .ok (.ireturn, 1) := by decide +kernel
theorem dX0_leastOf_78 : decode cX0_leastOf 78 = .ok (.iinc 5 1, 3) := by decide +kernel
theorem dX0_leastOf_81 : decode cX0_leastOf 81 = .ok (.goto (-61), 3) := by decide +kernel
theorem dX0_leastOf_84 : decode cX0_leastOf 84 = .ok (.iinc 4 1, 3) := by decide +kernel
theorem dX0_leastOf_87 : decode cX0_leastOf 87 = .ok (.goto (-76), 3) := by decide +kernel
theorem dX0_leastOf_90 : decode cX0_leastOf 90 = .ok (.iinc 3 1, 3) := by decide +kernel
theorem dX0_leastOf_93 : decode cX0_leastOf 93 = .ok (.goto (-91), 3) := by decide +kernel
theorem dX0_leastOf_96 : decode cX0_leastOf 96 = .ok (.iconst 0, 1) := by decide +kernel
theorem dX0_leastOf_97 : decode cX0_leastOf 97 = .ok (.ireturn, 1) := by decide +kernel
theorem dX0_isBorneByNone_0 : decode cX0_isBorneByNone 0 = .ok (.iconst 0, 1) := by decide +kernel
theorem dX0_isBorneByNone_1 : decode cX0_isBorneByNone 1 = .ok (.istore 4, 2) := by decide +kernel
theorem dX0_isBorneByNone_3 : decode cX0_isBorneByNone 3 = .ok (.iload 4, 2) := by decide +kernel
theorem dX0_isBorneByNone_5 : decode cX0_isBorneByNone 5 = .ok (.iconst 4, 1) := by decide +kernel
theorem dX0_isBorneByNone_6 : decode cX0_isBorneByNone 6 = .ok (.if_icmp .ge 51, 3) := by decide +kernel
theorem dX0_isBorneByNone_9 : decode cX0_isBorneByNone 9 = .ok (.aload_n 0, 1) := by decide +kernel
theorem dX0_isBorneByNone_10 : decode cX0_isBorneByNone 10 = .ok (.getfield 11, 3) := by decide +kernel
theorem dX0_isBorneByNone_13 : decode cX0_isBorneByNone 13 = .ok (.iload_n 1, 1) := by decide +kernel
theorem dX0_isBorneByNone_14 : decode cX0_isBorneByNone 14 = .ok (.iconst 4, 1) := by decide +kernel
theorem dX0_isBorneByNone_15 : decode cX0_isBorneByNone 15 = .ok (.imul, 1) := by decide +kernel
theorem dX0_isBorneByNone_16 : decode cX0_isBorneByNone 16 = .ok (.iload 4, 2) := by decide +kernel
theorem dX0_isBorneByNone_18 : decode cX0_isBorneByNone 18 = .ok (.iadd, 1) := by decide +kernel
theorem dX0_isBorneByNone_19 : decode cX0_isBorneByNone 19 = .ok (.laload, 1) := by decide +kernel
theorem dX0_isBorneByNone_20 : decode cX0_isBorneByNone 20 = .ok (.aload_n 0, 1) := by decide +kernel
theorem dX0_isBorneByNone_21 : decode cX0_isBorneByNone 21 = .ok (.getfield 11, 3) := by decide +kernel
theorem dX0_isBorneByNone_24 : decode cX0_isBorneByNone 24 = .ok (.iload_n 2, 1) := by decide +kernel
theorem dX0_isBorneByNone_25 : decode cX0_isBorneByNone 25 = .ok (.iconst 4, 1) := by decide +kernel
theorem dX0_isBorneByNone_26 : decode cX0_isBorneByNone 26 = .ok (.imul, 1) := by decide +kernel
theorem dX0_isBorneByNone_27 : decode cX0_isBorneByNone 27 = .ok (.iload 4, 2) := by decide +kernel
theorem dX0_isBorneByNone_29 : decode cX0_isBorneByNone 29 = .ok (.iadd, 1) := by decide +kernel
theorem dX0_isBorneByNone_30 : decode cX0_isBorneByNone 30 = .ok (.laload, 1) := by decide +kernel
theorem dX0_isBorneByNone_31 : decode cX0_isBorneByNone 31 = .ok (.land, 1) := by decide +kernel
theorem dX0_isBorneByNone_32 : decode cX0_isBorneByNone 32 = .ok (.aload_n 0, 1) := by decide +kernel
theorem dX0_isBorneByNone_33 : decode cX0_isBorneByNone 33 = .ok (.getfield 11, 3) := by decide +kernel
theorem dX0_isBorneByNone_36 : decode cX0_isBorneByNone 36 = .ok (.iload_n 3, 1) := by decide +kernel
theorem dX0_isBorneByNone_37 : decode cX0_isBorneByNone 37 = .ok (.iconst 4, 1) := by decide +kernel
theorem dX0_isBorneByNone_38 : decode cX0_isBorneByNone 38 = .ok (.imul, 1) := by decide +kernel
theorem dX0_isBorneByNone_39 : decode cX0_isBorneByNone 39 = .ok (.iload 4, 2) := by decide +kernel
theorem dX0_isBorneByNone_41 : decode cX0_isBorneByNone 41 = .ok (.iadd, 1) := by decide +kernel
theorem dX0_isBorneByNone_42 : decode cX0_isBorneByNone 42 = .ok (.laload, 1) := by decide +kernel
theorem dX0_isBorneByNone_43 : decode cX0_isBorneByNone 43 = .ok (.land, 1) := by decide +kernel
theorem dX0_isBorneByNone_44 : decode cX0_isBorneByNone 44 = .ok (.lconst 0, 1) := by decide +kernel
theorem dX0_isBorneByNone_45 : decode cX0_isBorneByNone 45 = .ok (.lcmp, 1) := by decide +kernel
theorem dX0_isBorneByNone_46 : decode cX0_isBorneByNone 46 = .ok (.ifCond .eq 5, 3) := by decide +kernel
theorem dX0_isBorneByNone_49 : decode cX0_isBorneByNone 49 = .ok (.iconst 0, 1) := by decide +kernel
theorem dX0_isBorneByNone_50 : decode cX0_isBorneByNone 50 = .ok (.ireturn, 1) := by decide +kernel
theorem dX0_isBorneByNone_51 : decode cX0_isBorneByNone 51 = .ok (.iinc 4 1, 3) := by decide +kernel
theorem dX0_isBorneByNone_54 : decode cX0_isBorneByNone 54 = .ok (.goto (-51), 3) := by decide +kernel
theorem dX0_isBorneByNone_57 : decode cX0_isBorneByNone 57 = .ok (.iconst 1, 1) := by decide +kernel
theorem dX0_isBorneByNone_58 : decode cX0_isBorneByNone 58 = .ok (.ireturn, 1) := by decide +kernel
theorem dX1_init_0 : decode cX1_init 0 = .ok (.aload_n 0, 1) := by decide +kernel
theorem dX1_init_1 : decode cX1_init 1 = .ok (.invokespecial 3, 3) := by decide +kernel
theorem dX1_init_4 : decode cX1_init 4 = .ok (.aload_n 0, 1) := by decide +kernel
theorem dX1_init_5 : decode cX1_init 5 = .ok (.bipush 40, 2) := by decide +kernel
theorem dX1_init_7 : decode cX1_init 7 = .ok (.newarray .int, 2) := by decide +kernel
theorem dX1_init_9 : decode cX1_init 9 = .ok (.putfield 9, 3) := by decide +kernel
theorem dX1_init_12 : decode cX1_init 12 = .ok (.aload_n 0, 1) := by decide +kernel
theorem dX1_init_13 : decode cX1_init 13 = .ok (.bipush 40, 2) := by decide +kernel
theorem dX1_init_15 : decode cX1_init 15 = .ok (.newarray .int, 2) := by decide +kernel
theorem dX1_init_17 : decode cX1_init 17 = .ok (.putfield 15, 3) := by decide +kernel
theorem dX1_init_20 : decode cX1_init 20 = .ok (.aload_n 0, 1) := by decide +kernel
theorem dX1_init_21 : decode cX1_init 21 = .ok (.iconst 0, 1) := by decide +kernel
theorem dX1_init_22 : decode cX1_init 22 = .ok (.putfield 18, 3) := by decide +kernel
theorem dX1_init_25 : decode cX1_init 25 = .ok (.aload_n 0, 1) := by decide +kernel
theorem dX1_init_26 : decode cX1_init 26 = .ok (.iconst 0, 1) := by decide +kernel
theorem dX1_init_27 : decode cX1_init 27 = .ok (.putfield 22, 3) := by decide +kernel
theorem dX1_init_30 : decode cX1_init 30 = .ok (.return_, 1) := by decide +kernel
theorem dX1_note_0 : decode cX1_note 0 = .ok (.aload_n 0, 1) := by decide +kernel
theorem dX1_note_1 : decode cX1_note 1 = .ok (.getfield 9, 3) := by decide +kernel
theorem dX1_note_4 : decode cX1_note 4 = .ok (.aload_n 0, 1) := by decide +kernel
theorem dX1_note_5 : decode cX1_note 5 = .ok (.getfield 18, 3) := by decide +kernel
theorem dX1_note_8 : decode cX1_note 8 = .ok (.iload_n 1, 1) := by decide +kernel
theorem dX1_note_9 : decode cX1_note 9 = .ok (.iastore, 1) := by decide +kernel
theorem dX1_note_10 : decode cX1_note 10 = .ok (.aload_n 0, 1) := by decide +kernel
theorem dX1_note_11 : decode cX1_note 11 = .ok (.getfield 15, 3) := by decide +kernel
theorem dX1_note_14 : decode cX1_note 14 = .ok (.aload_n 0, 1) := by decide +kernel
theorem dX1_note_15 : decode cX1_note 15 = .ok (.getfield 18, 3) := by decide +kernel
theorem dX1_note_18 : decode cX1_note 18 = .ok (.iload_n 2, 1) := by decide +kernel
theorem dX1_note_19 : decode cX1_note 19 = .ok (.iastore, 1) := by decide +kernel
theorem dX1_note_20 : decode cX1_note 20 = .ok (.aload_n 0, 1) := by decide +kernel
theorem dX1_note_21 : decode cX1_note 21 = .ok (.aload_n 0, 1) := by decide +kernel
theorem dX1_note_22 : decode cX1_note 22 = .ok (.getfield 18, 3) := by decide +kernel
theorem dX1_note_25 : decode cX1_note 25 = .ok (.iconst 1, 1) := by decide +kernel
theorem dX1_note_26 : decode cX1_note 26 = .ok (.iadd, 1) := by decide +kernel
theorem dX1_note_27 : decode cX1_note 27 = .ok (.bipush 40, 2) := by decide +kernel
theorem dX1_note_29 : decode cX1_note 29 = .ok (.irem, 1) := by decide +kernel
theorem dX1_note_30 : decode cX1_note 30 = .ok (.putfield 18, 3) := by decide +kernel
theorem dX1_note_33 : decode cX1_note 33 = .ok (.aload_n 0, 1) := by decide +kernel
theorem dX1_note_34 : decode cX1_note 34 = .ok (.getfield 22, 3) := by decide +kernel
theorem dX1_note_37 : decode cX1_note 37 = .ok (.bipush 40, 2) := by decide +kernel
theorem dX1_note_39 : decode cX1_note 39 = .ok (.if_icmp .ge 13, 3) := by decide +kernel
theorem dX1_note_42 : decode cX1_note 42 = .ok (.aload_n 0, 1) := by decide +kernel
theorem dX1_note_43 : decode cX1_note 43 = .ok (.dup, 1) := by decide +kernel
theorem dX1_note_44 : decode cX1_note 44 = .ok (.getfield 22, 3) := by decide +kernel
theorem dX1_note_47 : decode cX1_note 47 = .ok (.iconst 1, 1) := by decide +kernel
theorem dX1_note_48 : decode cX1_note 48 = .ok (.iadd, 1) := by decide +kernel
theorem dX1_note_49 : decode cX1_note 49 = .ok (.putfield 22, 3) := by decide +kernel
theorem dX1_note_52 : decode cX1_note 52 = .ok (.return_, 1) := by decide +kernel
theorem dX1_takeBack_0 : decode cX1_takeBack 0 = .ok (.aload_n 0, 1) := by decide +kernel
theorem dX1_takeBack_1 : decode cX1_takeBack 1 = .ok (.getfield 22, 3) := by decide +kernel
theorem dX1_takeBack_4 : decode cX1_takeBack 4 = .ok (.ifCond .ne 4, 3) := by decide +kernel
theorem dX1_takeBack_7 : decode cX1_takeBack 7 = .ok (.return_, 1) := by decide +kernel
theorem dX1_takeBack_8 : decode cX1_takeBack 8 = .ok (.aload_n 0, 1) := by decide +kernel
theorem dX1_takeBack_9 : decode cX1_takeBack 9 = .ok (.aload_n 0, 1) := by decide +kernel
theorem dX1_takeBack_10 : decode cX1_takeBack 10 = .ok (.getfield 18, 3) := by decide +kernel
theorem dX1_takeBack_13 : decode cX1_takeBack 13 = .ok (.bipush 40, 2) := by decide +kernel
theorem dX1_takeBack_15 : decode cX1_takeBack 15 = .ok (.iadd, 1) := by decide +kernel
theorem dX1_takeBack_16 : decode cX1_takeBack 16 = .ok (.iconst 1, 1) := by decide +kernel
theorem dX1_takeBack_17 : decode cX1_takeBack 17 = .ok (.isub, 1) := by decide +kernel
theorem dX1_takeBack_18 : decode cX1_takeBack 18 = .ok (.bipush 40, 2) := by decide +kernel
theorem dX1_takeBack_20 : decode cX1_takeBack 20 = .ok (.irem, 1) := by decide +kernel
theorem dX1_takeBack_21 : decode cX1_takeBack 21 = .ok (.putfield 18, 3) := by decide +kernel
theorem dX1_takeBack_24 : decode cX1_takeBack 24 = .ok (.aload_n 0, 1) := by decide +kernel
theorem dX1_takeBack_25 : decode cX1_takeBack 25 = .ok (.dup, 1) := by decide +kernel
theorem dX1_takeBack_26 : decode cX1_takeBack 26 = .ok (.getfield 22, 3) := by decide +kernel
theorem dX1_takeBack_29 : decode cX1_takeBack 29 = .ok (.iconst 1, 1) := by decide +kernel
theorem dX1_takeBack_30 : decode cX1_takeBack 30 = .ok (.isub, 1) := by decide +kernel
theorem dX1_takeBack_31 : decode cX1_takeBack 31 = .ok (.putfield 22, 3) := by decide +kernel
theorem dX1_takeBack_34 : decode cX1_takeBack 34 = .ok (.aload_n 0, 1) := by decide +kernel
theorem dX1_takeBack_35 : decode cX1_takeBack 35 = .ok (.getfield 9, 3) := by decide +kernel
theorem dX1_takeBack_38 : decode cX1_takeBack 38 = .ok (.aload_n 0, 1) := by decide +kernel
theorem dX1_takeBack_39 : decode cX1_takeBack 39 = .ok (.getfield 18, 3) := by decide +kernel
theorem dX1_takeBack_42 : decode cX1_takeBack 42 = .ok (.iaload, 1) := by decide +kernel
theorem dX1_takeBack_43 : decode cX1_takeBack 43 = .ok (.istore_n 2, 1) := by decide +kernel
theorem dX1_takeBack_44 : decode cX1_takeBack 44 = .ok (.iload_n 2, 1) := by decide +kernel
theorem dX1_takeBack_45 : decode cX1_takeBack 45 = .ok (.ifCond .lt 21, 3) := by decide +kernel
theorem dX1_takeBack_48 : decode cX1_takeBack 48 = .ok (.iload_n 2, 1) := by decide +kernel
theorem dX1_takeBack_49 : decode cX1_takeBack 49 = .ok (.aload_n 1, 1) := by decide +kernel
theorem dX1_takeBack_50 : decode cX1_takeBack 50 = .ok (.arraylength, 1) := by decide +kernel
theorem dX1_takeBack_51 : decode cX1_takeBack 51 = .ok (.if_icmp .ge 15, 3) := by decide +kernel
theorem dX1_takeBack_54 : decode cX1_takeBack 54 = .ok (.aload_n 1, 1) := by decide +kernel
theorem dX1_takeBack_55 : decode cX1_takeBack 55 = .ok (.iload_n 2, 1) := by decide +kernel
theorem dX1_takeBack_56 : decode cX1_takeBack 56 = .ok (.aload_n 0, 1) := by decide +kernel
theorem dX1_takeBack_57 : decode cX1_takeBack 57 = .ok (.getfield 15, 3) := by decide +kernel
theorem dX1_takeBack_60 : decode cX1_takeBack 60 = .ok (.aload_n 0, 1) := by decide +kernel
theorem dX1_takeBack_61 : decode cX1_takeBack 61 = .ok (.getfield 18, 3) := by decide +kernel
theorem dX1_takeBack_64 : decode cX1_takeBack 64 = .ok (.iaload, 1) := by decide +kernel
theorem dX1_takeBack_65 : decode cX1_takeBack 65 = .ok (.iastore, 1) := by decide +kernel
theorem dX1_takeBack_66 : decode cX1_takeBack 66 = .ok (.return_, 1) := by decide +kernel
theorem dX2_init_0 : decode cX2_init 0 = .ok (.aload_n 0, 1) := by decide +kernel
theorem dX2_init_1 : decode cX2_init 1 = .ok (.invokespecial 1, 3) := by decide +kernel
theorem dX2_init_4 : decode cX2_init 4 = .ok (.aload_n 0, 1) := by decide +kernel
theorem dX2_init_5 : decode cX2_init 5 = .ok (.iconst 0, 1) := by decide +kernel
theorem dX2_init_6 : decode cX2_init 6 = .ok (.putfield 7, 3) := by decide +kernel
theorem dX2_init_9 : decode cX2_init 9 = .ok (.aload_n 0, 1) := by decide +kernel
theorem dX2_init_10 : decode cX2_init 10 = .ok (.iconst 0, 1) := by decide +kernel
theorem dX2_init_11 : decode cX2_init 11 = .ok (.putfield 13, 3) := by decide +kernel
theorem dX2_init_14 : decode cX2_init 14 = .ok (.aload_n 0, 1) := by decide +kernel
theorem dX2_init_15 : decode cX2_init 15 = .ok (.iconst 0, 1) := by decide +kernel
theorem dX2_init_16 : decode cX2_init 16 = .ok (.putfield 16, 3) := by decide +kernel
theorem dX2_init_19 : decode cX2_init 19 = .ok (.aload_n 0, 1) := by decide +kernel
theorem dX2_init_20 : decode cX2_init 20 = .ok (.iconst 0, 1) := by decide +kernel
theorem dX2_init_21 : decode cX2_init 21 = .ok (.putfield 19, 3) := by decide +kernel
theorem dX2_init_24 : decode cX2_init 24 = .ok (.aload_n 0, 1) := by decide +kernel
theorem dX2_init_25 : decode cX2_init 25 = .ok (.iconst 0, 1) := by decide +kernel
theorem dX2_init_26 : decode cX2_init 26 = .ok (.putfield 22, 3) := by decide +kernel
theorem dX2_init_29 : decode cX2_init 29 = .ok (.aload_n 0, 1) := by decide +kernel
theorem dX2_init_30 : decode cX2_init 30 = .ok (.iconst 0, 1) := by decide +kernel
theorem dX2_init_31 : decode cX2_init 31 = .ok (.putfield 25, 3) := by decide +kernel
theorem dX2_init_34 : decode cX2_init 34 = .ok (.aload_n 0, 1) := by decide +kernel
theorem dX2_init_35 : decode cX2_init 35 = .ok (.aload_n 1, 1) := by decide +kernel
theorem dX2_init_36 : decode cX2_init 36 = .ok (.putfield 29, 3) := by decide +kernel
theorem dX2_init_39 : decode cX2_init 39 = .ok (.return_, 1) := by decide +kernel
theorem dX2_run_0 : decode cX2_run 0 = .ok (.aload_n 0, 1) := by decide +kernel
theorem dX2_run_1 : decode cX2_run 1 = .ok (.iload_n 2, 1) := by decide +kernel
theorem dX2_run_2 : decode cX2_run 2 = .ok (.iload_n 2, 1) := by decide +kernel
theorem dX2_run_3 : decode cX2_run 3 = .ok (.ineg, 1) := by decide +kernel
theorem dX2_run_4 : decode cX2_run 4 = .ok (.iand, 1) := by decide +kernel
theorem dX2_run_5 : decode cX2_run 5 = .ok (.putfield 22, 3) := by decide +kernel
theorem dX2_run_8 : decode cX2_run 8 = .ok (.aload_n 0, 1) := by decide +kernel
theorem dX2_run_9 : decode cX2_run 9 = .ok (.iconst 0, 1) := by decide +kernel
theorem dX2_run_10 : decode cX2_run 10 = .ok (.putfield 25, 3) := by decide +kernel
theorem dX2_run_13 : decode cX2_run 13 = .ok (.aload_n 0, 1) := by decide +kernel
theorem dX2_run_14 : decode cX2_run 14 = .ok (.iconst 0, 1) := by decide +kernel
theorem dX2_run_15 : decode cX2_run 15 = .ok (.putfield 19, 3) := by decide +kernel
theorem dX2_run_18 : decode cX2_run 18 = .ok (.iconst 0, 1) := by decide +kernel
theorem dX2_run_19 : decode cX2_run 19 = .ok (.istore_n 3, 1) := by decide +kernel
theorem dX2_run_20 : decode cX2_run 20 = .ok (.iload_n 3, 1) := by decide +kernel
theorem dX2_run_21 : decode cX2_run 21 = .ok (.iload_n 1, 1) := by decide +kernel
theorem dX2_run_22 : decode cX2_run 22 = .ok (.if_icmp .ge 140, 3) := by decide +kernel
theorem dX2_run_25 : decode cX2_run 25 = .ok (.aload_n 0, 1) := by decide +kernel
theorem dX2_run_26 : decode cX2_run 26 = .ok (.getfield 25, 3) := by decide +kernel
theorem dX2_run_29 : decode cX2_run 29 = .ok (.ifCond .ne 133, 3) := by decide +kernel
theorem dX2_run_32 : decode cX2_run 32 = .ok (.aload_n 0, 1) := by decide +kernel
theorem dX2_run_33 : decode cX2_run 33 = .ok (.aload_n 0, 1) := by decide +kernel
theorem dX2_run_34 : decode cX2_run 34 = .ok (.getfield 29, 3) := by decide +kernel
theorem dX2_run_37 : decode cX2_run 37 = .ok (.aload_n 0, 1) := by decide +kernel
theorem dX2_run_38 : decode cX2_run 38 = .ok (.getfield 22, 3) := by decide +kernel
theorem dX2_run_41 : decode cX2_run 41 = .ok (.invokevirtual 33, 3) := by decide +kernel
theorem dX2_run_44 : decode cX2_run 44 = .ok (.putfield 7, 3) := by decide +kernel
theorem dX2_run_47 : decode cX2_run 47 = .ok (.aload_n 0, 1) := by decide +kernel
theorem dX2_run_48 : decode cX2_run 48 = .ok (.getfield 29, 3) := by decide +kernel
theorem dX2_run_51 : decode cX2_run 51 = .ok (.getfield 39, 3) := by decide +kernel
theorem dX2_run_54 : decode cX2_run 54 = .ok (.istore 4, 2) := by decide +kernel
theorem dX2_run_56 : decode cX2_run 56 = .ok (.aload_n 0, 1) := by decide +kernel
theorem dX2_run_57 : decode cX2_run 57 = .ok (.getfield 29, 3) := by decide +kernel
theorem dX2_run_60 : decode cX2_run 60 = .ok (.iload 4, 2) := by decide +kernel
theorem dX2_run_62 : decode cX2_run 62 = .ok (.iload_n 2, 1) := by decide +kernel
theorem dX2_run_63 : decode cX2_run 63 = .ok (.invokevirtual 42, 3) := by decide +kernel
theorem dX2_run_66 : decode cX2_run 66 = .ok (.istore 5, 2) := by decide +kernel
theorem dX2_run_68 : decode cX2_run 68 = .ok (.aload_n 0, 1) := by decide +kernel
theorem dX2_run_69 : decode cX2_run 69 = .ok (.getfield 29, 3) := by decide +kernel
theorem dX2_run_72 : decode cX2_run 72 = .ok (.iload 4, 2) := by decide +kernel
theorem dX2_run_74 : decode cX2_run 74 = .ok (.iload 5, 2) := by decide +kernel
theorem dX2_run_76 : decode cX2_run 76 = .ok (.invokevirtual 46, 3) := by decide +kernel
theorem dX2_run_79 : decode cX2_run 79 = .ok (.istore 6, 2) := by decide +kernel
theorem dX2_run_81 : decode cX2_run 81 = .ok (.iload_n 3, 1) := by decide +kernel
theorem dX2_run_82 : decode cX2_run 82 = .ok (.ifCond .eq 12, 3) := by decide +kernel
theorem dX2_run_85 : decode cX2_run 85 = .ok (.iload 6, 2) := by decide +kernel
theorem dX2_run_87 : decode cX2_run 87 = .ok (.aload_n 0, 1) := by decide +kernel
theorem dX2_run_88 : decode cX2_run 88 = .ok (.getfield 13, 3) := by decide +kernel
theorem dX2_run_91 : decode cX2_run 91 = .ok (.if_icmp .ge 15, 3) := by decide +kernel
theorem dX2_run_94 : decode cX2_run 94 = .ok (.aload_n 0, 1) := by decide +kernel
theorem dX2_run_95 : decode cX2_run 95 = .ok (.iload 6, 2) := by decide +kernel
theorem dX2_run_97 : decode cX2_run 97 = .ok (.putfield 13, 3) := by decide +kernel
theorem dX2_run_100 : decode cX2_run 100 = .ok (.aload_n 0, 1) := by decide +kernel
theorem dX2_run_101 : decode cX2_run 101 = .ok (.iload 4, 2) := by decide +kernel
theorem dX2_run_103 : decode cX2_run 103 = .ok (.putfield 16, 3) := by decide +kernel
theorem dX2_run_106 : decode cX2_run 106 = .ok (.aload_n 0, 1) := by decide +kernel
theorem dX2_run_107 : decode cX2_run 107 = .ok (.dup, 1) := by decide +kernel
theorem dX2_run_108 : decode cX2_run 108 = .ok (.getfield 19, 3) := by decide +kernel
theorem dX2_run_111 : decode cX2_run 111 = .ok (.iconst 1, 1) := by decide +kernel
theorem dX2_run_112 : decode cX2_run 112 = .ok (.iadd, 1) := by decide +kernel
theorem dX2_run_113 : decode cX2_run 113 = .ok (.putfield 19, 3) := by decide +kernel
theorem dX2_run_116 : decode cX2_run 116 = .ok (.aload_n 0, 1) := by decide +kernel
theorem dX2_run_117 : decode cX2_run 117 = .ok (.aload_n 0, 1) := by decide +kernel
theorem dX2_run_118 : decode cX2_run 118 = .ok (.getfield 13, 3) := by decide +kernel
theorem dX2_run_121 : decode cX2_run 121 = .ok (.aload_n 0, 1) := by decide +kernel
theorem dX2_run_122 : decode cX2_run 122 = .ok (.getfield 7, 3) := by decide +kernel
theorem dX2_run_125 : decode cX2_run 125 = .ok (.if_icmp .ne 7, 3) := by decide +kernel
theorem dX2_run_128 : decode cX2_run 128 = .ok (.iconst 1, 1) := by decide +kernel
theorem dX2_run_129 : decode cX2_run 129 = .ok (.goto 4, 3) := by decide +kernel
theorem dX2_run_132 : decode cX2_run 132 = .ok (.iconst 0, 1) := by decide +kernel
theorem dX2_run_133 : decode cX2_run 133 = .ok (.putfield 25, 3) := by decide +kernel
theorem dX2_run_136 : decode cX2_run 136 = .ok (.aload_n 0, 1) := by decide +kernel
theorem dX2_run_137 : decode cX2_run 137 = .ok (.getfield 25, 3) := by decide +kernel
theorem dX2_run_140 : decode cX2_run 140 = .ok (.ifCond .ne 16, 3) := by decide +kernel
theorem dX2_run_143 : decode cX2_run 143 = .ok (.aload_n 0, 1) := by decide +kernel
theorem dX2_run_144 : decode cX2_run 144 = .ok (.dup, 1) := by decide +kernel
theorem dX2_run_145 : decode cX2_run 145 = .ok (.getfield 22, 3) := by decide +kernel
theorem dX2_run_148 : decode cX2_run 148 = .ok (.iconst 1, 1) := by decide +kernel
theorem dX2_run_149 : decode cX2_run 149 = .ok (.iload 5, 2) := by decide +kernel
theorem dX2_run_151 : decode cX2_run 151 = .ok (.ishl, 1) := by decide +kernel
theorem dX2_run_152 : decode cX2_run 152 = .ok (.ior, 1) := by decide +kernel
theorem dX2_run_153 : decode cX2_run 153 = .ok (.putfield 22, 3) := by decide +kernel
theorem dX2_run_156 : decode cX2_run 156 = .ok (.iinc 3 1, 3) := by decide +kernel
theorem dX2_run_159 : decode cX2_run 159 = .ok (.goto (-139), 3) := by decide +kernel
theorem dX2_run_162 : decode cX2_run 162 = .ok (.return_, 1) := by decide +kernel
theorem dX2_answer_0 : decode cX2_answer 0 = .ok (.iload_n 1, 1) := by decide +kernel
theorem dX2_answer_1 : decode cX2_answer 1 = .ok (.tableswitch 63 0 4 #[35, 40, 45, 50, 55], 35) := by decide +kernel
theorem dX2_answer_36 : decode cX2_answer 36 = .ok (.aload_n 0, 1) := by decide +kernel
theorem dX2_answer_37 : decode cX2_answer 37 = .ok (.getfield 7, 3) := by decide +kernel
theorem dX2_answer_40 : decode cX2_answer 40 = .ok (.ireturn, 1) := by decide +kernel
theorem dX2_answer_41 : decode cX2_answer 41 = .ok (.aload_n 0, 1) := by decide +kernel
theorem dX2_answer_42 : decode cX2_answer 42 = .ok (.getfield 13, 3) := by decide +kernel
theorem dX2_answer_45 : decode cX2_answer 45 = .ok (.ireturn, 1) := by decide +kernel
theorem dX2_answer_46 : decode cX2_answer 46 = .ok (.aload_n 0, 1) := by decide +kernel
theorem dX2_answer_47 : decode cX2_answer 47 = .ok (.getfield 16, 3) := by decide +kernel
theorem dX2_answer_50 : decode cX2_answer 50 = .ok (.ireturn, 1) := by decide +kernel
theorem dX2_answer_51 : decode cX2_answer 51 = .ok (.aload_n 0, 1) := by decide +kernel
theorem dX2_answer_52 : decode cX2_answer 52 = .ok (.getfield 19, 3) := by decide +kernel
theorem dX2_answer_55 : decode cX2_answer 55 = .ok (.ireturn, 1) := by decide +kernel
theorem dX2_answer_56 : decode cX2_answer 56 = .ok (.aload_n 0, 1) := by decide +kernel
theorem dX2_answer_57 : decode cX2_answer 57 = .ok (.getfield 22, 3) := by decide +kernel
theorem dX2_answer_60 : decode cX2_answer 60 = .ok (.invokestatic 49, 3) := by decide +kernel
theorem dX2_answer_63 : decode cX2_answer 63 = .ok (.ireturn, 1) := by decide +kernel
theorem dX2_answer_64 : decode cX2_answer 64 = .ok (.aload_n 0, 1) := by decide +kernel
theorem dX2_answer_65 : decode cX2_answer 65 = .ok (.getfield 25, 3) := by decide +kernel
theorem dX2_answer_68 : decode cX2_answer 68 = .ok (.ifCond .eq 7, 3) := by decide +kernel
theorem dX2_answer_71 : decode cX2_answer 71 = .ok (.iconst 1, 1) := by decide +kernel
theorem dX2_answer_72 : decode cX2_answer 72 = .ok (.goto 4, 3) := by decide +kernel
theorem dX2_answer_75 : decode cX2_answer 75 = .ok (.iconst 0, 1) := by decide +kernel
theorem dX2_answer_76 : decode cX2_answer 76 = .ok (.ireturn, 1) := by decide +kernel
theorem dX3_init_0 : decode cX3_init 0 = .ok (.aload_n 0, 1) := by decide +kernel
theorem dX3_init_1 : decode cX3_init 1 = .ok (.invokespecial 3, 3) := by decide +kernel
theorem dX3_init_4 : decode cX3_init 4 = .ok (.aload_n 0, 1) := by decide +kernel
theorem dX3_init_5 : decode cX3_init 5 = .ok (.sipush 4096, 3) := by decide +kernel
theorem dX3_init_8 : decode cX3_init 8 = .ok (.newarray .int, 2) := by decide +kernel
theorem dX3_init_10 : decode cX3_init 10 = .ok (.putfield 9, 3) := by decide +kernel
theorem dX3_init_13 : decode cX3_init 13 = .ok (.aload_n 0, 1) := by decide +kernel
theorem dX3_init_14 : decode cX3_init 14 = .ok (.iconst 1, 1) := by decide +kernel
theorem dX3_init_15 : decode cX3_init 15 = .ok (.putfield 15, 3) := by decide +kernel
theorem dX3_init_18 : decode cX3_init 18 = .ok (.aload_n 0, 1) := by decide +kernel
theorem dX3_init_19 : decode cX3_init 19 = .ok (.bipush (-9), 2) := by decide +kernel
theorem dX3_init_21 : decode cX3_init 21 = .ok (.putfield 19, 3) := by decide +kernel
theorem dX3_init_24 : decode cX3_init 24 = .ok (.aload_n 0, 1) := by decide +kernel
theorem dX3_init_25 : decode cX3_init 25 = .ok (.aload_n 1, 1) := by decide +kernel
theorem dX3_init_26 : decode cX3_init 26 = .ok (.putfield 23, 3) := by decide +kernel
theorem dX3_init_29 : decode cX3_init 29 = .ok (.aload_n 0, 1) := by decide +kernel
theorem dX3_init_30 : decode cX3_init 30 = .ok (.new 27, 3) := by decide +kernel
theorem dX3_init_33 : decode cX3_init 33 = .ok (.dup, 1) := by decide +kernel
theorem dX3_init_34 : decode cX3_init 34 = .ok (.aload_n 1, 1) := by decide +kernel
theorem dX3_init_35 : decode cX3_init 35 = .ok (.invokespecial 29, 3) := by decide +kernel
theorem dX3_init_38 : decode cX3_init 38 = .ok (.putfield 32, 3) := by decide +kernel
theorem dX3_init_41 : decode cX3_init 41 = .ok (.return_, 1) := by decide +kernel
theorem dX3_forget_0 : decode cX3_forget 0 = .ok (.aload_n 0, 1) := by decide +kernel
theorem dX3_forget_1 : decode cX3_forget 1 = .ok (.iconst 1, 1) := by decide +kernel
theorem dX3_forget_2 : decode cX3_forget 2 = .ok (.putfield 15, 3) := by decide +kernel
theorem dX3_forget_5 : decode cX3_forget 5 = .ok (.return_, 1) := by decide +kernel
theorem dX3_of_0 : decode cX3_of 0 = .ok (.iload_n 1, 1) := by decide +kernel
theorem dX3_of_1 : decode cX3_of 1 = .ok (.ifCond .lt 20, 3) := by decide +kernel
theorem dX3_of_4 : decode cX3_of 4 = .ok (.iload_n 1, 1) := by decide +kernel
theorem dX3_of_5 : decode cX3_of 5 = .ok (.sipush 256, 3) := by decide +kernel
theorem dX3_of_8 : decode cX3_of 8 = .ok (.if_icmp .ge 13, 3) := by decide +kernel
theorem dX3_of_11 : decode cX3_of 11 = .ok (.iload_n 2, 1) := by decide +kernel
theorem dX3_of_12 : decode cX3_of 12 = .ok (.ifCond .lt 9, 3) := by decide +kernel
theorem dX3_of_15 : decode cX3_of 15 = .ok (.iload_n 2, 1) := by decide +kernel
theorem dX3_of_16 : decode cX3_of 16 = .ok (.bipush 16, 2) := by decide +kernel
theorem dX3_of_18 : decode cX3_of 18 = .ok (.if_icmp .lt 6, 3) := by decide +kernel
theorem dX3_of_21 : decode cX3_of 21 = .ok (.bipush (-9), 2) := by decide +kernel
theorem dX3_of_23 : decode cX3_of 23 = .ok (.ireturn, 1) := by decide +kernel
theorem dX3_of_24 : decode cX3_of 24 = .ok (.iload_n 1, 1) := by decide +kernel
theorem dX3_of_25 : decode cX3_of 25 = .ok (.bipush 16, 2) := by decide +kernel
theorem dX3_of_27 : decode cX3_of 27 = .ok (.imul, 1) := by decide +kernel
theorem dX3_of_28 : decode cX3_of 28 = .ok (.iload_n 2, 1) := by decide +kernel
theorem dX3_of_29 : decode cX3_of 29 = .ok (.iadd, 1) := by decide +kernel
theorem dX3_of_30 : decode cX3_of 30 = .ok (.istore_n 3, 1) := by decide +kernel
theorem dX3_of_31 : decode cX3_of 31 = .ok (.aload_n 0, 1) := by decide +kernel
theorem dX3_of_32 : decode cX3_of 32 = .ok (.getfield 15, 3) := by decide +kernel
theorem dX3_of_35 : decode cX3_of 35 = .ok (.ifCond .eq 16, 3) := by decide +kernel
theorem dX3_of_38 : decode cX3_of 38 = .ok (.aload_n 0, 1) := by decide +kernel
theorem dX3_of_39 : decode cX3_of 39 = .ok (.getfield 9, 3) := by decide +kernel
theorem dX3_of_42 : decode cX3_of 42 = .ok (.iconst (-1), 1) := by decide +kernel
theorem dX3_of_43 : decode cX3_of 43 = .ok (.invokestatic 36, 3) := by decide +kernel
theorem dX3_of_46 : decode cX3_of 46 = .ok (.aload_n 0, 1) := by decide +kernel
theorem dX3_of_47 : decode cX3_of 47 = .ok (.iconst 0, 1) := by decide +kernel
theorem dX3_of_48 : decode cX3_of 48 = .ok (.putfield 15, 3) := by decide +kernel
theorem dX3_of_51 : decode cX3_of 51 = .ok (.aload_n 0, 1) := by decide +kernel
theorem dX3_of_52 : decode cX3_of 52 = .ok (.getfield 9, 3) := by decide +kernel
theorem dX3_of_55 : decode cX3_of 55 = .ok (.iload_n 3, 1) := by decide +kernel
theorem dX3_of_56 : decode cX3_of 56 = .ok (.iaload, 1) := by decide +kernel
theorem dX3_of_57 : decode cX3_of 57 = .ok (.iconst (-1), 1) := by decide +kernel
theorem dX3_of_58 : decode cX3_of 58 = .ok (.if_icmp .ne 34, 3) := by decide +kernel
theorem dX3_of_61 : decode cX3_of 61 = .ok (.aload_n 0, 1) := by decide +kernel
theorem dX3_of_62 : decode cX3_of 62 = .ok (.getfield 32, 3) := by decide +kernel
theorem dX3_of_65 : decode cX3_of 65 = .ok (.iload_n 1, 1) := by decide +kernel
theorem dX3_of_66 : decode cX3_of 66 = .ok (.iload_n 2, 1) := by decide +kernel
theorem dX3_of_67 : decode cX3_of 67 = .ok (.invokevirtual 42, 3) := by decide +kernel
theorem dX3_of_70 : decode cX3_of 70 = .ok (.aload_n 0, 1) := by decide +kernel
theorem dX3_of_71 : decode cX3_of 71 = .ok (.getfield 9, 3) := by decide +kernel
theorem dX3_of_74 : decode cX3_of 74 = .ok (.iload_n 3, 1) := by decide +kernel
theorem dX3_of_75 : decode cX3_of 75 = .ok (.aload_n 0, 1) := by decide +kernel
theorem dX3_of_76 : decode cX3_of 76 = .ok (.getfield 23, 3) := by decide +kernel
theorem dX3_of_79 : decode cX3_of 79 = .ok (.iload_n 1, 1) := by decide +kernel
theorem dX3_of_80 : decode cX3_of 80 = .ok (.invokevirtual 46, 3) := by decide +kernel
theorem dX3_of_83 : decode cX3_of 83 = .ok (.aload_n 0, 1) := by decide +kernel
theorem dX3_of_84 : decode cX3_of 84 = .ok (.getfield 32, 3) := by decide +kernel
theorem dX3_of_87 : decode cX3_of 87 = .ok (.invokevirtual 52, 3) := by decide +kernel
theorem dX3_of_90 : decode cX3_of 90 = .ok (.iadd, 1) := by decide +kernel
theorem dX3_of_91 : decode cX3_of 91 = .ok (.iastore, 1) := by decide +kernel
theorem dX3_of_92 : decode cX3_of 92 = .ok (.aload_n 0, 1) := by decide +kernel
theorem dX3_of_93 : decode cX3_of 93 = .ok (.getfield 9, 3) := by decide +kernel
theorem dX3_of_96 : decode cX3_of 96 = .ok (.iload_n 3, 1) := by decide +kernel
theorem dX3_of_97 : decode cX3_of 97 = .ok (.iaload, 1) := by decide +kernel
theorem dX3_of_98 : decode cX3_of 98 = .ok (.ireturn, 1) := by decide +kernel
theorem dX3_worstWorld_0 : decode cX3_worstWorld 0 = .ok (.bipush (-9), 2) := by decide +kernel
theorem dX3_worstWorld_2 : decode cX3_worstWorld 2 = .ok (.istore_n 3, 1) := by decide +kernel
theorem dX3_worstWorld_3 : decode cX3_worstWorld 3 = .ok (.bipush (-9), 2) := by decide +kernel
theorem dX3_worstWorld_5 : decode cX3_worstWorld 5 = .ok (.istore 4, 2) := by decide +kernel
theorem dX3_worstWorld_7 : decode cX3_worstWorld 7 = .ok (.iconst 0, 1) := by decide +kernel
theorem dX3_worstWorld_8 : decode cX3_worstWorld 8 = .ok (.istore 5, 2) := by decide +kernel
theorem dX3_worstWorld_10 : decode cX3_worstWorld 10 = .ok (.iload 5, 2) := by decide +kernel
theorem dX3_worstWorld_12 : decode cX3_worstWorld 12 = .ok (.bipush 16, 2) := by decide +kernel
theorem dX3_worstWorld_14 : decode cX3_worstWorld 14 = .ok (.if_icmp .ge 44, 3) := by decide +kernel
theorem dX3_worstWorld_17 : decode cX3_worstWorld 17 = .ok (.iload_n 2, 1) := by decide +kernel
theorem dX3_worstWorld_18 : decode cX3_worstWorld 18 = .ok (.iload 5, 2) := by decide +kernel
theorem dX3_worstWorld_20 : decode cX3_worstWorld 20 = .ok (.ishr, 1) := by decide +kernel
theorem dX3_worstWorld_21 : decode cX3_worstWorld 21 = .ok (.iconst 1, 1) := by decide +kernel
theorem dX3_worstWorld_22 : decode cX3_worstWorld 22 = .ok (.iand, 1) := by decide +kernel
theorem dX3_worstWorld_23 : decode cX3_worstWorld 23 = .ok (.ifCond .ne 6, 3) := by decide +kernel
theorem dX3_worstWorld_26 : decode cX3_worstWorld 26 = .ok (.goto 26, 3) := by decide +kernel
theorem dX3_worstWorld_29 : decode cX3_worstWorld 29 = .ok (.aload_n 0, 1) := by decide +kernel
theorem dX3_worstWorld_30 : decode cX3_worstWorld 30 = .ok (.iload_n 1, 1) := by decide +kernel
theorem dX3_worstWorld_31 : decode cX3_worstWorld 31 = .ok (.iload 5, 2) := by decide +kernel
theorem dX3_worstWorld_33 : decode cX3_worstWorld 33 = .ok (.invokevirtual 56, 3) := by decide +kernel
theorem dX3_worstWorld_36 : decode cX3_worstWorld 36 = .ok (.istore 6, 2) := by decide +kernel
theorem dX3_worstWorld_38 : decode cX3_worstWorld 38 = .ok (.iload 6, 2) := by decide +kernel
theorem dX3_worstWorld_40 : decode cX3_worstWorld 40 = .ok (.iload 4, 2) := by decide +kernel
theorem dX3_worstWorld_42 : decode cX3_worstWorld 42 = .ok (.if_icmp .le 10, 3) := by decide +kernel
theorem dX3_worstWorld_45 : decode cX3_worstWorld 45 = .ok (.iload 5, 2) := by decide +kernel
theorem dX3_worstWorld_47 : decode cX3_worstWorld 47 = .ok (.istore_n 3, 1) := by decide +kernel
theorem dX3_worstWorld_48 : decode cX3_worstWorld 48 = .ok (.iload 6, 2) := by decide +kernel
theorem dX3_worstWorld_50 : decode cX3_worstWorld 50 = .ok (.istore 4, 2) := by decide +kernel
theorem dX3_worstWorld_52 : decode cX3_worstWorld 52 = .ok (.iinc 5 1, 3) := by decide +kernel
theorem dX3_worstWorld_55 : decode cX3_worstWorld 55 = .ok (.goto (-45), 3) := by decide +kernel
theorem dX3_worstWorld_58 : decode cX3_worstWorld 58 = .ok (.iload_n 3, 1) := by decide +kernel
theorem dX3_worstWorld_59 : decode cX3_worstWorld 59 = .ok (.ireturn, 1) := by decide +kernel
theorem dX3_worstOver_0 : decode cX3_worstOver 0 = .ok (.aload_n 0, 1) := by decide +kernel
theorem dX3_worstOver_1 : decode cX3_worstOver 1 = .ok (.iload_n 1, 1) := by decide +kernel
theorem dX3_worstOver_2 : decode cX3_worstOver 2 = .ok (.aload_n 0, 1) := by decide +kernel
theorem dX3_worstOver_3 : decode cX3_worstOver 3 = .ok (.iload_n 1, 1) := by decide +kernel
theorem dX3_worstOver_4 : decode cX3_worstOver 4 = .ok (.iload_n 2, 1) := by decide +kernel
theorem dX3_worstOver_5 : decode cX3_worstOver 5 = .ok (.invokevirtual 60, 3) := by decide +kernel
theorem dX3_worstOver_8 : decode cX3_worstOver 8 = .ok (.invokevirtual 56, 3) := by decide +kernel
theorem dX3_worstOver_11 : decode cX3_worstOver 11 = .ok (.ireturn, 1) := by decide +kernel
theorem dX3_bestOver_0 : decode cX3_bestOver 0 = .ok (.aload_n 0, 1) := by decide +kernel
theorem dX3_bestOver_1 : decode cX3_bestOver 1 = .ok (.bipush (-9), 2) := by decide +kernel
theorem dX3_bestOver_3 : decode cX3_bestOver 3 = .ok (.putfield 19, 3) := by decide +kernel
theorem dX3_bestOver_6 : decode cX3_bestOver 6 = .ok (.bipush (-9), 2) := by decide +kernel
theorem dX3_bestOver_8 : decode cX3_bestOver 8 = .ok (.istore_n 2, 1) := by decide +kernel
theorem dX3_bestOver_9 : decode cX3_bestOver 9 = .ok (.bipush (-9), 2) := by decide +kernel
theorem dX3_bestOver_11 : decode cX3_bestOver 11 = .ok (.istore_n 3, 1) := by decide +kernel
theorem dX3_bestOver_12 : decode cX3_bestOver 12 = .ok (.iconst 0, 1) := by decide +kernel
theorem dX3_bestOver_13 : decode cX3_bestOver 13 = .ok (.istore 4, 2) := by decide +kernel
theorem dX3_bestOver_15 : decode cX3_bestOver 15 = .ok (.iload 4, 2) := by decide +kernel
theorem dX3_bestOver_17 : decode cX3_bestOver 17 = .ok (.sipush 256, 3) := by decide +kernel
theorem dX3_bestOver_20 : decode cX3_bestOver 20 = .ok (.if_icmp .ge 110, 3) := by decide +kernel
theorem dX3_bestOver_23 : decode cX3_bestOver 23 = .ok (.iload_n 1, 1) := by decide +kernel
theorem dX3_bestOver_24 : decode cX3_bestOver 24 = .ok (.ifCond .eq 106, 3) := by decide +kernel
theorem dX3_bestOver_27 : decode cX3_bestOver 27 = .ok (.aload_n 0, 1) := by decide +kernel
theorem dX3_bestOver_28 : decode cX3_bestOver 28 = .ok (.getfield 23, 3) := by decide +kernel
theorem dX3_bestOver_31 : decode cX3_bestOver 31 = .ok (.iload 4, 2) := by decide +kernel
theorem dX3_bestOver_33 : decode cX3_bestOver 33 = .ok (.invokevirtual 63, 3) := by decide +kernel
theorem dX3_bestOver_36 : decode cX3_bestOver 36 = .ok (.ifCond .ne 6, 3) := by decide +kernel
theorem dX3_bestOver_39 : decode cX3_bestOver 39 = .ok (.goto 85, 3) := by decide +kernel
theorem dX3_bestOver_42 : decode cX3_bestOver 42 = .ok (.aload_n 0, 1) := by decide +kernel
theorem dX3_bestOver_43 : decode cX3_bestOver 43 = .ok (.getfield 19, 3) := by decide +kernel
theorem dX3_bestOver_46 : decode cX3_bestOver 46 = .ok (.bipush (-9), 2) := by decide +kernel
theorem dX3_bestOver_48 : decode cX3_bestOver 48 = .ok (.if_icmp .eq 30, 3) := by decide +kernel
theorem dX3_bestOver_51 : decode cX3_bestOver 51 = .ok (.aload_n 0, 1) := by decide +kernel
theorem dX3_bestOver_52 : decode cX3_bestOver 52 = .ok (.getfield 23, 3) := by decide +kernel
theorem dX3_bestOver_55 : decode cX3_bestOver 55 = .ok (.iload 4, 2) := by decide +kernel
theorem dX3_bestOver_57 : decode cX3_bestOver 57 = .ok (.invokevirtual 46, 3) := by decide +kernel
theorem dX3_bestOver_60 : decode cX3_bestOver 60 = .ok (.iload_n 2, 1) := by decide +kernel
theorem dX3_bestOver_61 : decode cX3_bestOver 61 = .ok (.if_icmp .ge 63, 3) := by decide +kernel
theorem dX3_bestOver_64 : decode cX3_bestOver 64 = .ok (.aload_n 0, 1) := by decide +kernel
theorem dX3_bestOver_65 : decode cX3_bestOver 65 = .ok (.iload 4, 2) := by decide +kernel
theorem dX3_bestOver_67 : decode cX3_bestOver 67 = .ok (.iload_n 3, 1) := by decide +kernel
theorem dX3_bestOver_68 : decode cX3_bestOver 68 = .ok (.invokevirtual 56, 3) := by decide +kernel
theorem dX3_bestOver_71 : decode cX3_bestOver 71 = .ok (.iload_n 2, 1) := by decide +kernel
theorem dX3_bestOver_72 : decode cX3_bestOver 72 = .ok (.if_icmp .lt 6, 3) := by decide +kernel
theorem dX3_bestOver_75 : decode cX3_bestOver 75 = .ok (.goto 49, 3) := by decide +kernel
theorem dX3_bestOver_78 : decode cX3_bestOver 78 = .ok (.aload_n 0, 1) := by decide +kernel
theorem dX3_bestOver_79 : decode cX3_bestOver 79 = .ok (.iload 4, 2) := by decide +kernel
theorem dX3_bestOver_81 : decode cX3_bestOver 81 = .ok (.iload_n 1, 1) := by decide +kernel
theorem dX3_bestOver_82 : decode cX3_bestOver 82 = .ok (.invokevirtual 60, 3) := by decide +kernel
theorem dX3_bestOver_85 : decode cX3_bestOver 85 = .ok (.istore 5, 2) := by decide +kernel
theorem dX3_bestOver_87 : decode cX3_bestOver 87 = .ok (.aload_n 0, 1) := by decide +kernel
theorem dX3_bestOver_88 : decode cX3_bestOver 88 = .ok (.iload 4, 2) := by decide +kernel
theorem dX3_bestOver_90 : decode cX3_bestOver 90 = .ok (.iload 5, 2) := by decide +kernel
theorem dX3_bestOver_92 : decode cX3_bestOver 92 = .ok (.invokevirtual 56, 3) := by decide +kernel
theorem dX3_bestOver_95 : decode cX3_bestOver 95 = .ok (.istore 6, 2) := by decide +kernel
theorem dX3_bestOver_97 : decode cX3_bestOver 97 = .ok (.aload_n 0, 1) := by decide +kernel
theorem dX3_bestOver_98 : decode cX3_bestOver 98 = .ok (.getfield 19, 3) := by decide +kernel
theorem dX3_bestOver_101 : decode cX3_bestOver 101 = .ok (.bipush (-9), 2) := by decide +kernel
theorem dX3_bestOver_103 : decode cX3_bestOver 103 = .ok (.if_icmp .eq 9, 3) := by decide +kernel
theorem dX3_bestOver_106 : decode cX3_bestOver 106 = .ok (.iload 6, 2) := by decide +kernel
theorem dX3_bestOver_108 : decode cX3_bestOver 108 = .ok (.iload_n 2, 1) := by decide +kernel
theorem dX3_bestOver_109 : decode cX3_bestOver 109 = .ok (.if_icmp .ge 15, 3) := by decide +kernel
theorem dX3_bestOver_112 : decode cX3_bestOver 112 = .ok (.aload_n 0, 1) := by decide +kernel
theorem dX3_bestOver_113 : decode cX3_bestOver 113 = .ok (.iload 4, 2) := by decide +kernel
theorem dX3_bestOver_115 : decode cX3_bestOver 115 = .ok (.putfield 19, 3) := by decide +kernel
theorem dX3_bestOver_118 : decode cX3_bestOver 118 = .ok (.iload 6, 2) := by decide +kernel
theorem dX3_bestOver_120 : decode cX3_bestOver 120 = .ok (.istore_n 2, 1) := by decide +kernel
theorem dX3_bestOver_121 : decode cX3_bestOver 121 = .ok (.iload 5, 2) := by decide +kernel
theorem dX3_bestOver_123 : decode cX3_bestOver 123 = .ok (.istore_n 3, 1) := by decide +kernel
theorem dX3_bestOver_124 : decode cX3_bestOver 124 = .ok (.iinc 4 1, 3) := by decide +kernel
theorem dX3_bestOver_127 : decode cX3_bestOver 127 = .ok (.goto (-112), 3) := by decide +kernel
theorem dX3_bestOver_130 : decode cX3_bestOver 130 = .ok (.iload_n 2, 1) := by decide +kernel
theorem dX3_bestOver_131 : decode cX3_bestOver 131 = .ok (.ireturn, 1) := by decide +kernel
theorem dX4_init_0 : decode cX4_init 0 = .ok (.aload_n 0, 1) := by decide +kernel
theorem dX4_init_1 : decode cX4_init 1 = .ok (.invokespecial 3, 3) := by decide +kernel
theorem dX4_init_4 : decode cX4_init 4 = .ok (.aload_n 0, 1) := by decide +kernel
theorem dX4_init_5 : decode cX4_init 5 = .ok (.iconst 0, 1) := by decide +kernel
theorem dX4_init_6 : decode cX4_init 6 = .ok (.putfield 9, 3) := by decide +kernel
theorem dX4_init_9 : decode cX4_init 9 = .ok (.aload_n 0, 1) := by decide +kernel
theorem dX4_init_10 : decode cX4_init 10 = .ok (.iconst 4, 1) := by decide +kernel
theorem dX4_init_11 : decode cX4_init 11 = .ok (.newarray .int, 2) := by decide +kernel
theorem dX4_init_13 : decode cX4_init 13 = .ok (.putfield 15, 3) := by decide +kernel
theorem dX4_init_16 : decode cX4_init 16 = .ok (.aload_n 0, 1) := by decide +kernel
theorem dX4_init_17 : decode cX4_init 17 = .ok (.iconst 4, 1) := by decide +kernel
theorem dX4_init_18 : decode cX4_init 18 = .ok (.newarray .int, 2) := by decide +kernel
theorem dX4_init_20 : decode cX4_init 20 = .ok (.putfield 19, 3) := by decide +kernel
theorem dX4_init_23 : decode cX4_init 23 = .ok (.aload_n 0, 1) := by decide +kernel
theorem dX4_init_24 : decode cX4_init 24 = .ok (.iconst 0, 1) := by decide +kernel
theorem dX4_init_25 : decode cX4_init 25 = .ok (.putfield 22, 3) := by decide +kernel
theorem dX4_init_28 : decode cX4_init 28 = .ok (.aload_n 0, 1) := by decide +kernel
theorem dX4_init_29 : decode cX4_init 29 = .ok (.iconst 4, 1) := by decide +kernel
theorem dX4_init_30 : decode cX4_init 30 = .ok (.newarray .int, 2) := by decide +kernel
theorem dX4_init_32 : decode cX4_init 32 = .ok (.putfield 25, 3) := by decide +kernel
theorem dX4_init_35 : decode cX4_init 35 = .ok (.aload_n 0, 1) := by decide +kernel
theorem dX4_init_36 : decode cX4_init 36 = .ok (.iconst 4, 1) := by decide +kernel
theorem dX4_init_37 : decode cX4_init 37 = .ok (.newarray .int, 2) := by decide +kernel
theorem dX4_init_39 : decode cX4_init 39 = .ok (.putfield 28, 3) := by decide +kernel
theorem dX4_init_42 : decode cX4_init 42 = .ok (.aload_n 0, 1) := by decide +kernel
theorem dX4_init_43 : decode cX4_init 43 = .ok (.iconst 4, 1) := by decide +kernel
theorem dX4_init_44 : decode cX4_init 44 = .ok (.newarray .int, 2) := by decide +kernel
theorem dX4_init_46 : decode cX4_init 46 = .ok (.putfield 31, 3) := by decide +kernel
theorem dX4_init_49 : decode cX4_init 49 = .ok (.aload_n 0, 1) := by decide +kernel
theorem dX4_init_50 : decode cX4_init 50 = .ok (.bipush 16, 2) := by decide +kernel
theorem dX4_init_52 : decode cX4_init 52 = .ok (.newarray .int, 2) := by decide +kernel
theorem dX4_init_54 : decode cX4_init 54 = .ok (.putfield 34, 3) := by decide +kernel
theorem dX4_init_57 : decode cX4_init 57 = .ok (.aload_n 0, 1) := by decide +kernel
theorem dX4_init_58 : decode cX4_init 58 = .ok (.bipush 16, 2) := by decide +kernel
theorem dX4_init_60 : decode cX4_init 60 = .ok (.newarray .int, 2) := by decide +kernel
theorem dX4_init_62 : decode cX4_init 62 = .ok (.putfield 37, 3) := by decide +kernel
theorem dX4_init_65 : decode cX4_init 65 = .ok (.aload_n 0, 1) := by decide +kernel
theorem dX4_init_66 : decode cX4_init 66 = .ok (.iconst 4, 1) := by decide +kernel
theorem dX4_init_67 : decode cX4_init 67 = .ok (.newarray .int, 2) := by decide +kernel
theorem dX4_init_69 : decode cX4_init 69 = .ok (.putfield 40, 3) := by decide +kernel
theorem dX4_init_72 : decode cX4_init 72 = .ok (.aload_n 0, 1) := by decide +kernel
theorem dX4_init_73 : decode cX4_init 73 = .ok (.iconst 4, 1) := by decide +kernel
theorem dX4_init_74 : decode cX4_init 74 = .ok (.newarray .int, 2) := by decide +kernel
theorem dX4_init_76 : decode cX4_init 76 = .ok (.putfield 43, 3) := by decide +kernel
theorem dX4_init_79 : decode cX4_init 79 = .ok (.aload_n 0, 1) := by decide +kernel
theorem dX4_init_80 : decode cX4_init 80 = .ok (.aload_n 1, 1) := by decide +kernel
theorem dX4_init_81 : decode cX4_init 81 = .ok (.putfield 46, 3) := by decide +kernel
theorem dX4_init_84 : decode cX4_init 84 = .ok (.return_, 1) := by decide +kernel
theorem dX4_weigh_0 : decode cX4_weigh 0 = .ok (.aload_n 0, 1) := by decide +kernel
theorem dX4_weigh_1 : decode cX4_weigh 1 = .ok (.iconst 0, 1) := by decide +kernel
theorem dX4_weigh_2 : decode cX4_weigh 2 = .ok (.putfield 9, 3) := by decide +kernel
theorem dX4_weigh_5 : decode cX4_weigh 5 = .ok (.aload_n 0, 1) := by decide +kernel
theorem dX4_weigh_6 : decode cX4_weigh 6 = .ok (.iconst 0, 1) := by decide +kernel
theorem dX4_weigh_7 : decode cX4_weigh 7 = .ok (.putfield 22, 3) := by decide +kernel
theorem dX4_weigh_10 : decode cX4_weigh 10 = .ok (.aload_n 0, 1) := by decide +kernel
theorem dX4_weigh_11 : decode cX4_weigh 11 = .ok (.getfield 37, 3) := by decide +kernel
theorem dX4_weigh_14 : decode cX4_weigh 14 = .ok (.iconst 0, 1) := by decide +kernel
theorem dX4_weigh_15 : decode cX4_weigh 15 = .ok (.invokestatic 50, 3) := by decide +kernel
theorem dX4_weigh_18 : decode cX4_weigh 18 = .ok (.iconst 0, 1) := by decide +kernel
theorem dX4_weigh_19 : decode cX4_weigh 19 = .ok (.istore_n 3, 1) := by decide +kernel
theorem dX4_weigh_20 : decode cX4_weigh 20 = .ok (.iload_n 3, 1) := by decide +kernel
theorem dX4_weigh_21 : decode cX4_weigh 21 = .ok (.iconst 4, 1) := by decide +kernel
theorem dX4_weigh_22 : decode cX4_weigh 22 = .ok (.if_icmp .ge 120, 3) := by decide +kernel
theorem dX4_weigh_25 : decode cX4_weigh 25 = .ok (.aload_n 0, 1) := by decide +kernel
theorem dX4_weigh_26 : decode cX4_weigh 26 = .ok (.getfield 46, 3) := by decide +kernel
theorem dX4_weigh_29 : decode cX4_weigh 29 = .ok (.iload_n 3, 1) := by decide +kernel
theorem dX4_weigh_30 : decode cX4_weigh 30 = .ok (.iload_n 1, 1) := by decide +kernel
theorem dX4_weigh_31 : decode cX4_weigh 31 = .ok (.iload_n 2, 1) := by decide +kernel
theorem dX4_weigh_32 : decode cX4_weigh 32 = .ok (.invokevirtual 56, 3) := by decide +kernel
theorem dX4_weigh_35 : decode cX4_weigh 35 = .ok (.istore 4, 2) := by decide +kernel
theorem dX4_weigh_37 : decode cX4_weigh 37 = .ok (.iload 4, 2) := by decide +kernel
theorem dX4_weigh_39 : decode cX4_weigh 39 = .ok (.ifCond .le 37, 3) := by decide +kernel
theorem dX4_weigh_42 : decode cX4_weigh 42 = .ok (.aload_n 0, 1) := by decide +kernel
theorem dX4_weigh_43 : decode cX4_weigh 43 = .ok (.getfield 15, 3) := by decide +kernel
theorem dX4_weigh_46 : decode cX4_weigh 46 = .ok (.aload_n 0, 1) := by decide +kernel
theorem dX4_weigh_47 : decode cX4_weigh 47 = .ok (.getfield 9, 3) := by decide +kernel
theorem dX4_weigh_50 : decode cX4_weigh 50 = .ok (.iload_n 3, 1) := by decide +kernel
theorem dX4_weigh_51 : decode cX4_weigh 51 = .ok (.iastore, 1) := by decide +kernel
theorem dX4_weigh_52 : decode cX4_weigh 52 = .ok (.aload_n 0, 1) := by decide +kernel
theorem dX4_weigh_53 : decode cX4_weigh 53 = .ok (.getfield 19, 3) := by decide +kernel
theorem dX4_weigh_56 : decode cX4_weigh 56 = .ok (.aload_n 0, 1) := by decide +kernel
theorem dX4_weigh_57 : decode cX4_weigh 57 = .ok (.getfield 9, 3) := by decide +kernel
theorem dX4_weigh_60 : decode cX4_weigh 60 = .ok (.iload 4, 2) := by decide +kernel
theorem dX4_weigh_62 : decode cX4_weigh 62 = .ok (.iastore, 1) := by decide +kernel
theorem dX4_weigh_63 : decode cX4_weigh 63 = .ok (.aload_n 0, 1) := by decide +kernel
theorem dX4_weigh_64 : decode cX4_weigh 64 = .ok (.dup, 1) := by decide +kernel
theorem dX4_weigh_65 : decode cX4_weigh 65 = .ok (.getfield 9, 3) := by decide +kernel
theorem dX4_weigh_68 : decode cX4_weigh 68 = .ok (.iconst 1, 1) := by decide +kernel
theorem dX4_weigh_69 : decode cX4_weigh 69 = .ok (.iadd, 1) := by decide +kernel
theorem dX4_weigh_70 : decode cX4_weigh 70 = .ok (.putfield 9, 3) := by decide +kernel
theorem dX4_weigh_73 : decode cX4_weigh 73 = .ok (.goto 63, 3) := by decide +kernel
theorem dX4_weigh_76 : decode cX4_weigh 76 = .ok (.iload 4, 2) := by decide +kernel
theorem dX4_weigh_78 : decode cX4_weigh 78 = .ok (.ifCond .ge 58, 3) := by decide +kernel
theorem dX4_weigh_81 : decode cX4_weigh 81 = .ok (.aload_n 0, 1) := by decide +kernel
theorem dX4_weigh_82 : decode cX4_weigh 82 = .ok (.getfield 25, 3) := by decide +kernel
theorem dX4_weigh_85 : decode cX4_weigh 85 = .ok (.aload_n 0, 1) := by decide +kernel
theorem dX4_weigh_86 : decode cX4_weigh 86 = .ok (.getfield 22, 3) := by decide +kernel
theorem dX4_weigh_89 : decode cX4_weigh 89 = .ok (.iload_n 3, 1) := by decide +kernel
theorem dX4_weigh_90 : decode cX4_weigh 90 = .ok (.iastore, 1) := by decide +kernel
theorem dX4_weigh_91 : decode cX4_weigh 91 = .ok (.aload_n 0, 1) := by decide +kernel
theorem dX4_weigh_92 : decode cX4_weigh 92 = .ok (.getfield 28, 3) := by decide +kernel
theorem dX4_weigh_95 : decode cX4_weigh 95 = .ok (.aload_n 0, 1) := by decide +kernel
theorem dX4_weigh_96 : decode cX4_weigh 96 = .ok (.getfield 22, 3) := by decide +kernel
theorem dX4_weigh_99 : decode cX4_weigh 99 = .ok (.iload 4, 2) := by decide +kernel
theorem dX4_weigh_101 : decode cX4_weigh 101 = .ok (.ineg, 1) := by decide +kernel
theorem dX4_weigh_102 : decode cX4_weigh 102 = .ok (.iastore, 1) := by decide +kernel
theorem dX4_weigh_103 : decode cX4_weigh 103 = .ok (.aload_n 0, 1) := by decide +kernel
theorem dX4_weigh_104 : decode cX4_weigh 104 = .ok (.getfield 31, 3) := by decide +kernel
theorem dX4_weigh_107 : decode cX4_weigh 107 = .ok (.aload_n 0, 1) := by decide +kernel
theorem dX4_weigh_108 : decode cX4_weigh 108 = .ok (.getfield 22, 3) := by decide +kernel
theorem dX4_weigh_111 : decode cX4_weigh 111 = .ok (.aload_n 0, 1) := by decide +kernel
theorem dX4_weigh_112 : decode cX4_weigh 112 = .ok (.getfield 46, 3) := by decide +kernel
theorem dX4_weigh_115 : decode cX4_weigh 115 = .ok (.getfield 62, 3) := by decide +kernel
theorem dX4_weigh_118 : decode cX4_weigh 118 = .ok (.iload_n 3, 1) := by decide +kernel
theorem dX4_weigh_119 : decode cX4_weigh 119 = .ok (.bipush 6, 2) := by decide +kernel
theorem dX4_weigh_121 : decode cX4_weigh 121 = .ok (.imul, 1) := by decide +kernel
theorem dX4_weigh_122 : decode cX4_weigh 122 = .ok (.iconst 4, 1) := by decide +kernel
theorem dX4_weigh_123 : decode cX4_weigh 123 = .ok (.iadd, 1) := by decide +kernel
theorem dX4_weigh_124 : decode cX4_weigh 124 = .ok (.iaload, 1) := by decide +kernel
theorem dX4_weigh_125 : decode cX4_weigh 125 = .ok (.iastore, 1) := by decide +kernel
theorem dX4_weigh_126 : decode cX4_weigh 126 = .ok (.aload_n 0, 1) := by decide +kernel
theorem dX4_weigh_127 : decode cX4_weigh 127 = .ok (.dup, 1) := by decide +kernel
theorem dX4_weigh_128 : decode cX4_weigh 128 = .ok (.getfield 22, 3) := by decide +kernel
theorem dX4_weigh_131 : decode cX4_weigh 131 = .ok (.iconst 1, 1) := by decide +kernel
theorem dX4_weigh_132 : decode cX4_weigh 132 = .ok (.iadd, 1) := by decide +kernel
theorem dX4_weigh_133 : decode cX4_weigh 133 = .ok (.putfield 22, 3) := by decide +kernel
theorem dX4_weigh_136 : decode cX4_weigh 136 = .ok (.iinc 3 1, 3) := by decide +kernel
theorem dX4_weigh_139 : decode cX4_weigh 139 = .ok (.goto (-119), 3) := by decide +kernel
theorem dX4_weigh_142 : decode cX4_weigh 142 = .ok (.iconst 0, 1) := by decide +kernel
theorem dX4_weigh_143 : decode cX4_weigh 143 = .ok (.istore_n 3, 1) := by decide +kernel
theorem dX4_weigh_144 : decode cX4_weigh 144 = .ok (.iload_n 3, 1) := by decide +kernel
theorem dX4_weigh_145 : decode cX4_weigh 145 = .ok (.aload_n 0, 1) := by decide +kernel
theorem dX4_weigh_146 : decode cX4_weigh 146 = .ok (.getfield 9, 3) := by decide +kernel
theorem dX4_weigh_149 : decode cX4_weigh 149 = .ok (.if_icmp .ge 65, 3) := by decide +kernel
theorem dX4_weigh_152 : decode cX4_weigh 152 = .ok (.iconst 0, 1) := by decide +kernel
theorem dX4_weigh_153 : decode cX4_weigh 153 = .ok (.istore 4, 2) := by decide +kernel
theorem dX4_weigh_155 : decode cX4_weigh 155 = .ok (.iload 4, 2) := by decide +kernel
theorem dX4_weigh_157 : decode cX4_weigh 157 = .ok (.aload_n 0, 1) := by decide +kernel
theorem dX4_weigh_158 : decode cX4_weigh 158 = .ok (.getfield 22, 3) := by decide +kernel
theorem dX4_weigh_161 : decode cX4_weigh 161 = .ok (.if_icmp .ge 47, 3) := by decide +kernel
theorem dX4_weigh_164 : decode cX4_weigh 164 = .ok (.aload_n 0, 1) := by decide +kernel
theorem dX4_weigh_165 : decode cX4_weigh 165 = .ok (.getfield 34, 3) := by decide +kernel
theorem dX4_weigh_168 : decode cX4_weigh 168 = .ok (.iload_n 3, 1) := by decide +kernel
theorem dX4_weigh_169 : decode cX4_weigh 169 = .ok (.iconst 4, 1) := by decide +kernel
theorem dX4_weigh_170 : decode cX4_weigh 170 = .ok (.imul, 1) := by decide +kernel
theorem dX4_weigh_171 : decode cX4_weigh 171 = .ok (.iload 4, 2) := by decide +kernel
theorem dX4_weigh_173 : decode cX4_weigh 173 = .ok (.iadd, 1) := by decide +kernel
theorem dX4_weigh_174 : decode cX4_weigh 174 = .ok (.aload_n 0, 1) := by decide +kernel
theorem dX4_weigh_175 : decode cX4_weigh 175 = .ok (.getfield 46, 3) := by decide +kernel
theorem dX4_weigh_178 : decode cX4_weigh 178 = .ok (.getfield 62, 3) := by decide +kernel
theorem dX4_weigh_181 : decode cX4_weigh 181 = .ok (.bipush 24, 2) := by decide +kernel
theorem dX4_weigh_183 : decode cX4_weigh 183 = .ok (.aload_n 0, 1) := by decide +kernel
theorem dX4_weigh_184 : decode cX4_weigh 184 = .ok (.getfield 15, 3) := by decide +kernel
theorem dX4_weigh_187 : decode cX4_weigh 187 = .ok (.iload_n 3, 1) := by decide +kernel
theorem dX4_weigh_188 : decode cX4_weigh 188 = .ok (.iaload, 1) := by decide +kernel
theorem dX4_weigh_189 : decode cX4_weigh 189 = .ok (.iconst 4, 1) := by decide +kernel
theorem dX4_weigh_190 : decode cX4_weigh 190 = .ok (.imul, 1) := by decide +kernel
theorem dX4_weigh_191 : decode cX4_weigh 191 = .ok (.iadd, 1) := by decide +kernel
theorem dX4_weigh_192 : decode cX4_weigh 192 = .ok (.aload_n 0, 1) := by decide +kernel
theorem dX4_weigh_193 : decode cX4_weigh 193 = .ok (.getfield 25, 3) := by decide +kernel
theorem dX4_weigh_196 : decode cX4_weigh 196 = .ok (.iload 4, 2) := by decide +kernel
theorem dX4_weigh_198 : decode cX4_weigh 198 = .ok (.iaload, 1) := by decide +kernel
theorem dX4_weigh_199 : decode cX4_weigh 199 = .ok (.iadd, 1) := by decide +kernel
theorem dX4_weigh_200 : decode cX4_weigh 200 = .ok (.iaload, 1) := by decide +kernel
theorem dX4_weigh_201 : decode cX4_weigh 201 = .ok (.iastore, 1) := by decide +kernel
theorem dX4_weigh_202 : decode cX4_weigh 202 = .ok (.iinc 4 1, 3) := by decide +kernel
theorem dX4_weigh_205 : decode cX4_weigh 205 = .ok (.goto (-50), 3) := by decide +kernel
theorem dX4_weigh_208 : decode cX4_weigh 208 = .ok (.iinc 3 1, 3) := by decide +kernel
theorem dX4_weigh_211 : decode cX4_weigh 211 = .ok (.goto (-67), 3) := by decide +kernel
theorem dX4_weigh_214 : decode cX4_weigh 214 = .ok (.return_, 1) := by decide +kernel
theorem dX4_leastLater_0 : decode cX4_leastLater 0 = .ok (.iconst 0, 1) := by decide +kernel
theorem dX4_leastLater_1 : decode cX4_leastLater 1 = .ok (.istore_n 1, 1) := by decide +kernel
theorem dX4_leastLater_2 : decode cX4_leastLater 2 = .ok (.iconst 0, 1) := by decide +kernel
theorem dX4_leastLater_3 : decode cX4_leastLater 3 = .ok (.istore_n 2, 1) := by decide +kernel
theorem dX4_leastLater_4 : decode cX4_leastLater 4 = .ok (.iload_n 2, 1) := by decide +kernel
theorem dX4_leastLater_5 : decode cX4_leastLater 5 = .ok (.aload_n 0, 1) := by decide +kernel
theorem dX4_leastLater_6 : decode cX4_leastLater 6 = .ok (.getfield 22, 3) := by decide +kernel
theorem dX4_leastLater_9 : decode cX4_leastLater 9 = .ok (.if_icmp .ge 62, 3) := by decide +kernel
theorem dX4_leastLater_12 : decode cX4_leastLater 12 = .ok (.iconst 0, 1) := by decide +kernel
theorem dX4_leastLater_13 : decode cX4_leastLater 13 = .ok (.istore_n 3, 1) := by decide +kernel
theorem dX4_leastLater_14 : decode cX4_leastLater 14 = .ok (.iload_n 3, 1) := by decide +kernel
theorem dX4_leastLater_15 : decode cX4_leastLater 15 = .ok (.sipush 198, 3) := by decide +kernel
theorem dX4_leastLater_18 : decode cX4_leastLater 18 = .ok (.if_icmp .ge 47, 3) := by decide +kernel
theorem dX4_leastLater_21 : decode cX4_leastLater 21 = .ok (.aload_n 0, 1) := by decide +kernel
theorem dX4_leastLater_22 : decode cX4_leastLater 22 = .ok (.getfield 28, 3) := by decide +kernel
theorem dX4_leastLater_25 : decode cX4_leastLater 25 = .ok (.iload_n 2, 1) := by decide +kernel
theorem dX4_leastLater_26 : decode cX4_leastLater 26 = .ok (.iaload, 1) := by decide +kernel
theorem dX4_leastLater_27 : decode cX4_leastLater 27 = .ok (.ifCond .le 38, 3) := by decide +kernel
theorem dX4_leastLater_30 : decode cX4_leastLater 30 = .ok (.iconst 0, 1) := by decide +kernel
theorem dX4_leastLater_31 : decode cX4_leastLater 31 = .ok (.istore 4, 2) := by decide +kernel
theorem dX4_leastLater_33 : decode cX4_leastLater 33 = .ok (.iload 4, 2) := by decide +kernel
theorem dX4_leastLater_35 : decode cX4_leastLater 35 = .ok (.iload_n 2, 1) := by decide +kernel
theorem dX4_leastLater_36 : decode cX4_leastLater 36 = .ok (.if_icmp .gt 15, 3) := by decide +kernel
theorem dX4_leastLater_39 : decode cX4_leastLater 39 = .ok (.aload_n 0, 1) := by decide +kernel
theorem dX4_leastLater_40 : decode cX4_leastLater 40 = .ok (.iload 4, 2) := by decide +kernel
theorem dX4_leastLater_42 : decode cX4_leastLater 42 = .ok (.invokevirtual 65, 3) := by decide +kernel
theorem dX4_leastLater_45 : decode cX4_leastLater 45 = .ok (.iinc 4 1, 3) := by decide +kernel
theorem dX4_leastLater_48 : decode cX4_leastLater 48 = .ok (.goto (-15), 3) := by decide +kernel
theorem dX4_leastLater_51 : decode cX4_leastLater 51 = .ok (.iload_n 1, 1) := by decide +kernel
theorem dX4_leastLater_52 : decode cX4_leastLater 52 = .ok (.aload_n 0, 1) := by decide +kernel
theorem dX4_leastLater_53 : decode cX4_leastLater 53 = .ok (.iload_n 2, 1) := by decide +kernel
theorem dX4_leastLater_54 : decode cX4_leastLater 54 = .ok (.invokevirtual 69, 3) := by decide +kernel
theorem dX4_leastLater_57 : decode cX4_leastLater 57 = .ok (.iadd, 1) := by decide +kernel
theorem dX4_leastLater_58 : decode cX4_leastLater 58 = .ok (.istore_n 1, 1) := by decide +kernel
theorem dX4_leastLater_59 : decode cX4_leastLater 59 = .ok (.iinc 3 1, 3) := by decide +kernel
theorem dX4_leastLater_62 : decode cX4_leastLater 62 = .ok (.goto (-48), 3) := by decide +kernel
theorem dX4_leastLater_65 : decode cX4_leastLater 65 = .ok (.iinc 2 1, 3) := by decide +kernel
theorem dX4_leastLater_68 : decode cX4_leastLater 68 = .ok (.goto (-64), 3) := by decide +kernel
theorem dX4_leastLater_71 : decode cX4_leastLater 71 = .ok (.iload_n 1, 1) := by decide +kernel
theorem dX4_leastLater_72 : decode cX4_leastLater 72 = .ok (.ireturn, 1) := by decide +kernel
theorem dX4_findOwnWay_0 : decode cX4_findOwnWay 0 = .ok (.aload_n 0, 1) := by decide +kernel
theorem dX4_findOwnWay_1 : decode cX4_findOwnWay 1 = .ok (.getfield 40, 3) := by decide +kernel
theorem dX4_findOwnWay_4 : decode cX4_findOwnWay 4 = .ok (.iload_n 1, 1) := by decide +kernel
theorem dX4_findOwnWay_5 : decode cX4_findOwnWay 5 = .ok (.aload_n 0, 1) := by decide +kernel
theorem dX4_findOwnWay_6 : decode cX4_findOwnWay 6 = .ok (.getfield 46, 3) := by decide +kernel
theorem dX4_findOwnWay_9 : decode cX4_findOwnWay 9 = .ok (.getfield 62, 3) := by decide +kernel
theorem dX4_findOwnWay_12 : decode cX4_findOwnWay 12 = .ok (.bipush 41, 2) := by decide +kernel
theorem dX4_findOwnWay_14 : decode cX4_findOwnWay 14 = .ok (.iaload, 1) := by decide +kernel
theorem dX4_findOwnWay_15 : decode cX4_findOwnWay 15 = .ok (.iastore, 1) := by decide +kernel
theorem dX4_findOwnWay_16 : decode cX4_findOwnWay 16 = .ok (.aload_n 0, 1) := by decide +kernel
theorem dX4_findOwnWay_17 : decode cX4_findOwnWay 17 = .ok (.getfield 43, 3) := by decide +kernel
theorem dX4_findOwnWay_20 : decode cX4_findOwnWay 20 = .ok (.iload_n 1, 1) := by decide +kernel
theorem dX4_findOwnWay_21 : decode cX4_findOwnWay 21 = .ok (.bipush (-2), 2) := by decide +kernel
theorem dX4_findOwnWay_23 : decode cX4_findOwnWay 23 = .ok (.iastore, 1) := by decide +kernel
theorem dX4_findOwnWay_24 : decode cX4_findOwnWay 24 = .ok (.aload_n 0, 1) := by decide +kernel
theorem dX4_findOwnWay_25 : decode cX4_findOwnWay 25 = .ok (.getfield 46, 3) := by decide +kernel
theorem dX4_findOwnWay_28 : decode cX4_findOwnWay 28 = .ok (.getfield 62, 3) := by decide +kernel
theorem dX4_findOwnWay_31 : decode cX4_findOwnWay 31 = .ok (.aload_n 0, 1) := by decide +kernel
theorem dX4_findOwnWay_32 : decode cX4_findOwnWay 32 = .ok (.getfield 25, 3) := by decide +kernel
theorem dX4_findOwnWay_35 : decode cX4_findOwnWay 35 = .ok (.iload_n 1, 1) := by decide +kernel
theorem dX4_findOwnWay_36 : decode cX4_findOwnWay 36 = .ok (.iaload, 1) := by decide +kernel
theorem dX4_findOwnWay_37 : decode cX4_findOwnWay 37 = .ok (.bipush 6, 2) := by decide +kernel
theorem dX4_findOwnWay_39 : decode cX4_findOwnWay 39 = .ok (.imul, 1) := by decide +kernel
theorem dX4_findOwnWay_40 : decode cX4_findOwnWay 40 = .ok (.iconst 3, 1) := by decide +kernel
theorem dX4_findOwnWay_41 : decode cX4_findOwnWay 41 = .ok (.iadd, 1) := by decide +kernel
theorem dX4_findOwnWay_42 : decode cX4_findOwnWay 42 = .ok (.iaload, 1) := by decide +kernel
theorem dX4_findOwnWay_43 : decode cX4_findOwnWay 43 = .ok (.istore_n 2, 1) := by decide +kernel
theorem dX4_findOwnWay_44 : decode cX4_findOwnWay 44 = .ok (.aload_n 0, 1) := by decide +kernel
theorem dX4_findOwnWay_45 : decode cX4_findOwnWay 45 = .ok (.getfield 31, 3) := by decide +kernel
theorem dX4_findOwnWay_48 : decode cX4_findOwnWay 48 = .ok (.iload_n 1, 1) := by decide +kernel
theorem dX4_findOwnWay_49 : decode cX4_findOwnWay 49 = .ok (.iaload, 1) := by decide +kernel
theorem dX4_findOwnWay_50 : decode cX4_findOwnWay 50 = .ok (.ifCond .le 27, 3) := by decide +kernel
theorem dX4_findOwnWay_53 : decode cX4_findOwnWay 53 = .ok (.iload_n 2, 1) := by decide +kernel
theorem dX4_findOwnWay_54 : decode cX4_findOwnWay 54 = .ok (.aload_n 0, 1) := by decide +kernel
theorem dX4_findOwnWay_55 : decode cX4_findOwnWay 55 = .ok (.getfield 40, 3) := by decide +kernel
theorem dX4_findOwnWay_58 : decode cX4_findOwnWay 58 = .ok (.iload_n 1, 1) := by decide +kernel
theorem dX4_findOwnWay_59 : decode cX4_findOwnWay 59 = .ok (.iaload, 1) := by decide +kernel
theorem dX4_findOwnWay_60 : decode cX4_findOwnWay 60 = .ok (.if_icmp .ge 17, 3) := by decide +kernel
theorem dX4_findOwnWay_63 : decode cX4_findOwnWay 63 = .ok (.aload_n 0, 1) := by decide +kernel
theorem dX4_findOwnWay_64 : decode cX4_findOwnWay 64 = .ok (.getfield 40, 3) := by decide +kernel
theorem dX4_findOwnWay_67 : decode cX4_findOwnWay 67 = .ok (.iload_n 1, 1) := by decide +kernel
theorem dX4_findOwnWay_68 : decode cX4_findOwnWay 68 = .ok (.iload_n 2, 1) := by decide +kernel
theorem dX4_findOwnWay_69 : decode cX4_findOwnWay 69 = .ok (.iastore, 1) := by decide +kernel
theorem dX4_findOwnWay_70 : decode cX4_findOwnWay 70 = .ok (.aload_n 0, 1) := by decide +kernel
theorem dX4_findOwnWay_71 : decode cX4_findOwnWay 71 = .ok (.getfield 43, 3) := by decide +kernel
theorem dX4_findOwnWay_74 : decode cX4_findOwnWay 74 = .ok (.iload_n 1, 1) := by decide +kernel
theorem dX4_findOwnWay_75 : decode cX4_findOwnWay 75 = .ok (.iconst (-1), 1) := by decide +kernel
theorem dX4_findOwnWay_76 : decode cX4_findOwnWay 76 = .ok (.iastore, 1) := by decide +kernel
theorem dX4_findOwnWay_77 : decode cX4_findOwnWay 77 = .ok (.iconst 0, 1) := by decide +kernel
theorem dX4_findOwnWay_78 : decode cX4_findOwnWay 78 = .ok (.istore_n 3, 1) := by decide +kernel
theorem dX4_findOwnWay_79 : decode cX4_findOwnWay 79 = .ok (.iload_n 3, 1) := by decide +kernel
theorem dX4_findOwnWay_80 : decode cX4_findOwnWay 80 = .ok (.aload_n 0, 1) := by decide +kernel
theorem dX4_findOwnWay_81 : decode cX4_findOwnWay 81 = .ok (.getfield 9, 3) := by decide +kernel
theorem dX4_findOwnWay_84 : decode cX4_findOwnWay 84 = .ok (.if_icmp .ge 56, 3) := by decide +kernel
theorem dX4_findOwnWay_87 : decode cX4_findOwnWay 87 = .ok (.aload_n 0, 1) := by decide +kernel
theorem dX4_findOwnWay_88 : decode cX4_findOwnWay 88 = .ok (.getfield 34, 3) := by decide +kernel
theorem dX4_findOwnWay_91 : decode cX4_findOwnWay 91 = .ok (.iload_n 3, 1) := by decide +kernel
theorem dX4_findOwnWay_92 : decode cX4_findOwnWay 92 = .ok (.iconst 4, 1) := by decide +kernel
theorem dX4_findOwnWay_93 : decode cX4_findOwnWay 93 = .ok (.imul, 1) := by decide +kernel
theorem dX4_findOwnWay_94 : decode cX4_findOwnWay 94 = .ok (.iload_n 1, 1) := by decide +kernel
theorem dX4_findOwnWay_95 : decode cX4_findOwnWay 95 = .ok (.iadd, 1) := by decide +kernel
theorem dX4_findOwnWay_96 : decode cX4_findOwnWay 96 = .ok (.iaload, 1) := by decide +kernel
theorem dX4_findOwnWay_97 : decode cX4_findOwnWay 97 = .ok (.istore 4, 2) := by decide +kernel
theorem dX4_findOwnWay_99 : decode cX4_findOwnWay 99 = .ok (.aload_n 0, 1) := by decide +kernel
theorem dX4_findOwnWay_100 : decode cX4_findOwnWay 100 = .ok (.getfield 19, 3) := by decide +kernel
theorem dX4_findOwnWay_103 : decode cX4_findOwnWay 103 = .ok (.iload_n 3, 1) := by decide +kernel
theorem dX4_findOwnWay_104 : decode cX4_findOwnWay 104 = .ok (.iaload, 1) := by decide +kernel
theorem dX4_findOwnWay_105 : decode cX4_findOwnWay 105 = .ok (.ifCond .le 29, 3) := by decide +kernel
theorem dX4_findOwnWay_108 : decode cX4_findOwnWay 108 = .ok (.iload 4, 2) := by decide +kernel
theorem dX4_findOwnWay_110 : decode cX4_findOwnWay 110 = .ok (.aload_n 0, 1) := by decide +kernel
theorem dX4_findOwnWay_111 : decode cX4_findOwnWay 111 = .ok (.getfield 40, 3) := by decide +kernel
theorem dX4_findOwnWay_114 : decode cX4_findOwnWay 114 = .ok (.iload_n 1, 1) := by decide +kernel
theorem dX4_findOwnWay_115 : decode cX4_findOwnWay 115 = .ok (.iaload, 1) := by decide +kernel
theorem dX4_findOwnWay_116 : decode cX4_findOwnWay 116 = .ok (.if_icmp .ge 18, 3) := by decide +kernel
theorem dX4_findOwnWay_119 : decode cX4_findOwnWay 119 = .ok (.aload_n 0, 1) := by decide +kernel
theorem dX4_findOwnWay_120 : decode cX4_findOwnWay 120 = .ok (.getfield 40, 3) := by decide +kernel
theorem dX4_findOwnWay_123 : decode cX4_findOwnWay 123 = .ok (.iload_n 1, 1) := by decide +kernel
theorem dX4_findOwnWay_124 : decode cX4_findOwnWay 124 = .ok (.iload 4, 2) := by decide +kernel
theorem dX4_findOwnWay_126 : decode cX4_findOwnWay 126 = .ok (.iastore, 1) := by decide +kernel
theorem dX4_findOwnWay_127 : decode cX4_findOwnWay 127 = .ok (.aload_n 0, 1) := by decide +kernel
theorem dX4_findOwnWay_128 : decode cX4_findOwnWay 128 = .ok (.getfield 43, 3) := by decide +kernel
theorem dX4_findOwnWay_131 : decode cX4_findOwnWay 131 = .ok (.iload_n 1, 1) := by decide +kernel
theorem dX4_findOwnWay_132 : decode cX4_findOwnWay 132 = .ok (.iload_n 3, 1) := by decide +kernel
theorem dX4_findOwnWay_133 : decode cX4_findOwnWay 133 = .ok (.iastore, 1) := by decide +kernel
theorem dX4_findOwnWay_134 : decode cX4_findOwnWay 134 = .ok (.iinc 3 1, 3) := by decide +kernel
theorem dX4_findOwnWay_137 : decode cX4_findOwnWay 137 = .ok (.goto (-58), 3) := by decide +kernel
theorem dX4_findOwnWay_140 : decode cX4_findOwnWay 140 = .ok (.return_, 1) := by decide +kernel
theorem dX4_serve_0 : decode cX4_serve 0 = .ok (.aload_n 0, 1) := by decide +kernel
theorem dX4_serve_1 : decode cX4_serve 1 = .ok (.getfield 40, 3) := by decide +kernel
theorem dX4_serve_4 : decode cX4_serve 4 = .ok (.iload_n 1, 1) := by decide +kernel
theorem dX4_serve_5 : decode cX4_serve 5 = .ok (.iaload, 1) := by decide +kernel
theorem dX4_serve_6 : decode cX4_serve 6 = .ok (.istore_n 2, 1) := by decide +kernel
theorem dX4_serve_7 : decode cX4_serve 7 = .ok (.iload_n 1, 1) := by decide +kernel
theorem dX4_serve_8 : decode cX4_serve 8 = .ok (.istore_n 3, 1) := by decide +kernel
theorem dX4_serve_9 : decode cX4_serve 9 = .ok (.iconst 0, 1) := by decide +kernel
theorem dX4_serve_10 : decode cX4_serve 10 = .ok (.istore 4, 2) := by decide +kernel
theorem dX4_serve_12 : decode cX4_serve 12 = .ok (.iconst 0, 1) := by decide +kernel
theorem dX4_serve_13 : decode cX4_serve 13 = .ok (.istore 5, 2) := by decide +kernel
theorem dX4_serve_15 : decode cX4_serve 15 = .ok (.iload 5, 2) := by decide +kernel
theorem dX4_serve_17 : decode cX4_serve 17 = .ok (.aload_n 0, 1) := by decide +kernel
theorem dX4_serve_18 : decode cX4_serve 18 = .ok (.getfield 9, 3) := by decide +kernel
theorem dX4_serve_21 : decode cX4_serve 21 = .ok (.if_icmp .ge 89, 3) := by decide +kernel
theorem dX4_serve_24 : decode cX4_serve 24 = .ok (.iconst 0, 1) := by decide +kernel
theorem dX4_serve_25 : decode cX4_serve 25 = .ok (.istore 6, 2) := by decide +kernel
theorem dX4_serve_27 : decode cX4_serve 27 = .ok (.iload 6, 2) := by decide +kernel
theorem dX4_serve_29 : decode cX4_serve 29 = .ok (.iload_n 1, 1) := by decide +kernel
theorem dX4_serve_30 : decode cX4_serve 30 = .ok (.if_icmp .ge 74, 3) := by decide +kernel
theorem dX4_serve_33 : decode cX4_serve 33 = .ok (.aload_n 0, 1) := by decide +kernel
theorem dX4_serve_34 : decode cX4_serve 34 = .ok (.getfield 40, 3) := by decide +kernel
theorem dX4_serve_37 : decode cX4_serve 37 = .ok (.iload 6, 2) := by decide +kernel
theorem dX4_serve_39 : decode cX4_serve 39 = .ok (.iaload, 1) := by decide +kernel
theorem dX4_serve_40 : decode cX4_serve 40 = .ok (.aload_n 0, 1) := by decide +kernel
theorem dX4_serve_41 : decode cX4_serve 41 = .ok (.getfield 34, 3) := by decide +kernel
theorem dX4_serve_44 : decode cX4_serve 44 = .ok (.iload 5, 2) := by decide +kernel
theorem dX4_serve_46 : decode cX4_serve 46 = .ok (.iconst 4, 1) := by decide +kernel
theorem dX4_serve_47 : decode cX4_serve 47 = .ok (.imul, 1) := by decide +kernel
theorem dX4_serve_48 : decode cX4_serve 48 = .ok (.iload 6, 2) := by decide +kernel
theorem dX4_serve_50 : decode cX4_serve 50 = .ok (.iadd, 1) := by decide +kernel
theorem dX4_serve_51 : decode cX4_serve 51 = .ok (.iaload, 1) := by decide +kernel
theorem dX4_serve_52 : decode cX4_serve 52 = .ok (.isub, 1) := by decide +kernel
theorem dX4_serve_53 : decode cX4_serve 53 = .ok (.aload_n 0, 1) := by decide +kernel
theorem dX4_serve_54 : decode cX4_serve 54 = .ok (.getfield 34, 3) := by decide +kernel
theorem dX4_serve_57 : decode cX4_serve 57 = .ok (.iload 5, 2) := by decide +kernel
theorem dX4_serve_59 : decode cX4_serve 59 = .ok (.iconst 4, 1) := by decide +kernel
theorem dX4_serve_60 : decode cX4_serve 60 = .ok (.imul, 1) := by decide +kernel
theorem dX4_serve_61 : decode cX4_serve 61 = .ok (.iload_n 1, 1) := by decide +kernel
theorem dX4_serve_62 : decode cX4_serve 62 = .ok (.iadd, 1) := by decide +kernel
theorem dX4_serve_63 : decode cX4_serve 63 = .ok (.iaload, 1) := by decide +kernel
theorem dX4_serve_64 : decode cX4_serve 64 = .ok (.iadd, 1) := by decide +kernel
theorem dX4_serve_65 : decode cX4_serve 65 = .ok (.istore 7, 2) := by decide +kernel
theorem dX4_serve_67 : decode cX4_serve 67 = .ok (.aload_n 0, 1) := by decide +kernel
theorem dX4_serve_68 : decode cX4_serve 68 = .ok (.getfield 37, 3) := by decide +kernel
theorem dX4_serve_71 : decode cX4_serve 71 = .ok (.iload 5, 2) := by decide +kernel
theorem dX4_serve_73 : decode cX4_serve 73 = .ok (.iconst 4, 1) := by decide +kernel
theorem dX4_serve_74 : decode cX4_serve 74 = .ok (.imul, 1) := by decide +kernel
theorem dX4_serve_75 : decode cX4_serve 75 = .ok (.iload 6, 2) := by decide +kernel
theorem dX4_serve_77 : decode cX4_serve 77 = .ok (.iadd, 1) := by decide +kernel
theorem dX4_serve_78 : decode cX4_serve 78 = .ok (.iaload, 1) := by decide +kernel
theorem dX4_serve_79 : decode cX4_serve 79 = .ok (.ifCond .le 19, 3) := by decide +kernel
theorem dX4_serve_82 : decode cX4_serve 82 = .ok (.iload 7, 2) := by decide +kernel
theorem dX4_serve_84 : decode cX4_serve 84 = .ok (.iload_n 2, 1) := by decide +kernel
theorem dX4_serve_85 : decode cX4_serve 85 = .ok (.if_icmp .ge 13, 3) := by decide +kernel
theorem dX4_serve_88 : decode cX4_serve 88 = .ok (.iload 7, 2) := by decide +kernel
theorem dX4_serve_90 : decode cX4_serve 90 = .ok (.istore_n 2, 1) := by decide +kernel
theorem dX4_serve_91 : decode cX4_serve 91 = .ok (.iload 6, 2) := by decide +kernel
theorem dX4_serve_93 : decode cX4_serve 93 = .ok (.istore_n 3, 1) := by decide +kernel
theorem dX4_serve_94 : decode cX4_serve 94 = .ok (.iload 5, 2) := by decide +kernel
theorem dX4_serve_96 : decode cX4_serve 96 = .ok (.istore 4, 2) := by decide +kernel
theorem dX4_serve_98 : decode cX4_serve 98 = .ok (.iinc 6 1, 3) := by decide +kernel
theorem dX4_serve_101 : decode cX4_serve 101 = .ok (.goto (-74), 3) := by decide +kernel
theorem dX4_serve_104 : decode cX4_serve 104 = .ok (.iinc 5 1, 3) := by decide +kernel
theorem dX4_serve_107 : decode cX4_serve 107 = .ok (.goto (-92), 3) := by decide +kernel
theorem dX4_serve_110 : decode cX4_serve 110 = .ok (.aload_n 0, 1) := by decide +kernel
theorem dX4_serve_111 : decode cX4_serve 111 = .ok (.getfield 28, 3) := by decide +kernel
theorem dX4_serve_114 : decode cX4_serve 114 = .ok (.iload_n 1, 1) := by decide +kernel
theorem dX4_serve_115 : decode cX4_serve 115 = .ok (.iaload, 1) := by decide +kernel
theorem dX4_serve_116 : decode cX4_serve 116 = .ok (.aload_n 0, 1) := by decide +kernel
theorem dX4_serve_117 : decode cX4_serve 117 = .ok (.iload_n 3, 1) := by decide +kernel
theorem dX4_serve_118 : decode cX4_serve 118 = .ok (.invokevirtual 73, 3) := by decide +kernel
theorem dX4_serve_121 : decode cX4_serve 121 = .ok (.invokestatic 76, 3) := by decide +kernel
theorem dX4_serve_124 : decode cX4_serve 124 = .ok (.istore 5, 2) := by decide +kernel
theorem dX4_serve_126 : decode cX4_serve 126 = .ok (.iload_n 3, 1) := by decide +kernel
theorem dX4_serve_127 : decode cX4_serve 127 = .ok (.iload_n 1, 1) := by decide +kernel
theorem dX4_serve_128 : decode cX4_serve 128 = .ok (.if_icmp .eq 53, 3) := by decide +kernel
theorem dX4_serve_131 : decode cX4_serve 131 = .ok (.iload 5, 2) := by decide +kernel
theorem dX4_serve_133 : decode cX4_serve 133 = .ok (.aload_n 0, 1) := by decide +kernel
theorem dX4_serve_134 : decode cX4_serve 134 = .ok (.getfield 37, 3) := by decide +kernel
theorem dX4_serve_137 : decode cX4_serve 137 = .ok (.iload 4, 2) := by decide +kernel
theorem dX4_serve_139 : decode cX4_serve 139 = .ok (.iconst 4, 1) := by decide +kernel
theorem dX4_serve_140 : decode cX4_serve 140 = .ok (.imul, 1) := by decide +kernel
theorem dX4_serve_141 : decode cX4_serve 141 = .ok (.iload_n 3, 1) := by decide +kernel
theorem dX4_serve_142 : decode cX4_serve 142 = .ok (.iadd, 1) := by decide +kernel
theorem dX4_serve_143 : decode cX4_serve 143 = .ok (.iaload, 1) := by decide +kernel
theorem dX4_serve_144 : decode cX4_serve 144 = .ok (.invokestatic 76, 3) := by decide +kernel
theorem dX4_serve_147 : decode cX4_serve 147 = .ok (.istore 5, 2) := by decide +kernel
theorem dX4_serve_149 : decode cX4_serve 149 = .ok (.aload_n 0, 1) := by decide +kernel
theorem dX4_serve_150 : decode cX4_serve 150 = .ok (.getfield 37, 3) := by decide +kernel
theorem dX4_serve_153 : decode cX4_serve 153 = .ok (.iload 4, 2) := by decide +kernel
theorem dX4_serve_155 : decode cX4_serve 155 = .ok (.iconst 4, 1) := by decide +kernel
theorem dX4_serve_156 : decode cX4_serve 156 = .ok (.imul, 1) := by decide +kernel
theorem dX4_serve_157 : decode cX4_serve 157 = .ok (.iload_n 3, 1) := by decide +kernel
theorem dX4_serve_158 : decode cX4_serve 158 = .ok (.iadd, 1) := by decide +kernel
theorem dX4_serve_159 : decode cX4_serve 159 = .ok (.dup2, 1) := by decide +kernel
theorem dX4_serve_160 : decode cX4_serve 160 = .ok (.iaload, 1) := by decide +kernel
theorem dX4_serve_161 : decode cX4_serve 161 = .ok (.iload 5, 2) := by decide +kernel
theorem dX4_serve_163 : decode cX4_serve 163 = .ok (.isub, 1) := by decide +kernel
theorem dX4_serve_164 : decode cX4_serve 164 = .ok (.iastore, 1) := by decide +kernel
theorem dX4_serve_165 : decode cX4_serve 165 = .ok (.aload_n 0, 1) := by decide +kernel
theorem dX4_serve_166 : decode cX4_serve 166 = .ok (.getfield 37, 3) := by decide +kernel
theorem dX4_serve_169 : decode cX4_serve 169 = .ok (.iload 4, 2) := by decide +kernel
theorem dX4_serve_171 : decode cX4_serve 171 = .ok (.iconst 4, 1) := by decide +kernel
theorem dX4_serve_172 : decode cX4_serve 172 = .ok (.imul, 1) := by decide +kernel
theorem dX4_serve_173 : decode cX4_serve 173 = .ok (.iload_n 1, 1) := by decide +kernel
theorem dX4_serve_174 : decode cX4_serve 174 = .ok (.iadd, 1) := by decide +kernel
theorem dX4_serve_175 : decode cX4_serve 175 = .ok (.dup2, 1) := by decide +kernel
theorem dX4_serve_176 : decode cX4_serve 176 = .ok (.iaload, 1) := by decide +kernel
theorem dX4_serve_177 : decode cX4_serve 177 = .ok (.iload 5, 2) := by decide +kernel
theorem dX4_serve_179 : decode cX4_serve 179 = .ok (.iadd, 1) := by decide +kernel
theorem dX4_serve_180 : decode cX4_serve 180 = .ok (.iastore, 1) := by decide +kernel
theorem dX4_serve_181 : decode cX4_serve 181 = .ok (.aload_n 0, 1) := by decide +kernel
theorem dX4_serve_182 : decode cX4_serve 182 = .ok (.iload_n 3, 1) := by decide +kernel
theorem dX4_serve_183 : decode cX4_serve 183 = .ok (.iload 5, 2) := by decide +kernel
theorem dX4_serve_185 : decode cX4_serve 185 = .ok (.invokevirtual 82, 3) := by decide +kernel
theorem dX4_serve_188 : decode cX4_serve 188 = .ok (.aload_n 0, 1) := by decide +kernel
theorem dX4_serve_189 : decode cX4_serve 189 = .ok (.getfield 28, 3) := by decide +kernel
theorem dX4_serve_192 : decode cX4_serve 192 = .ok (.iload_n 1, 1) := by decide +kernel
theorem dX4_serve_193 : decode cX4_serve 193 = .ok (.dup2, 1) := by decide +kernel
theorem dX4_serve_194 : decode cX4_serve 194 = .ok (.iaload, 1) := by decide +kernel
theorem dX4_serve_195 : decode cX4_serve 195 = .ok (.iload 5, 2) := by decide +kernel
theorem dX4_serve_197 : decode cX4_serve 197 = .ok (.isub, 1) := by decide +kernel
theorem dX4_serve_198 : decode cX4_serve 198 = .ok (.iastore, 1) := by decide +kernel
theorem dX4_serve_199 : decode cX4_serve 199 = .ok (.iload 5, 2) := by decide +kernel
theorem dX4_serve_201 : decode cX4_serve 201 = .ok (.iload_n 2, 1) := by decide +kernel
theorem dX4_serve_202 : decode cX4_serve 202 = .ok (.imul, 1) := by decide +kernel
theorem dX4_serve_203 : decode cX4_serve 203 = .ok (.ireturn, 1) := by decide +kernel
theorem dX4_roomOf_0 : decode cX4_roomOf 0 = .ok (.aload_n 0, 1) := by decide +kernel
theorem dX4_roomOf_1 : decode cX4_roomOf 1 = .ok (.getfield 43, 3) := by decide +kernel
theorem dX4_roomOf_4 : decode cX4_roomOf 4 = .ok (.iload_n 1, 1) := by decide +kernel
theorem dX4_roomOf_5 : decode cX4_roomOf 5 = .ok (.iaload, 1) := by decide +kernel
theorem dX4_roomOf_6 : decode cX4_roomOf 6 = .ok (.istore_n 2, 1) := by decide +kernel
theorem dX4_roomOf_7 : decode cX4_roomOf 7 = .ok (.iload_n 2, 1) := by decide +kernel
theorem dX4_roomOf_8 : decode cX4_roomOf 8 = .ok (.iconst (-1), 1) := by decide +kernel
theorem dX4_roomOf_9 : decode cX4_roomOf 9 = .ok (.if_icmp .ne 10, 3) := by decide +kernel
theorem dX4_roomOf_12 : decode cX4_roomOf 12 = .ok (.aload_n 0, 1) := by decide +kernel
theorem dX4_roomOf_13 : decode cX4_roomOf 13 = .ok (.getfield 31, 3) := by decide +kernel
theorem dX4_roomOf_16 : decode cX4_roomOf 16 = .ok (.iload_n 1, 1) := by decide +kernel
theorem dX4_roomOf_17 : decode cX4_roomOf 17 = .ok (.iaload, 1) := by decide +kernel
theorem dX4_roomOf_18 : decode cX4_roomOf 18 = .ok (.ireturn, 1) := by decide +kernel
theorem dX4_roomOf_19 : decode cX4_roomOf 19 = .ok (.iload_n 2, 1) := by decide +kernel
theorem dX4_roomOf_20 : decode cX4_roomOf 20 = .ok (.ifCond .lt 20, 3) := by decide +kernel
theorem dX4_roomOf_23 : decode cX4_roomOf 23 = .ok (.iload_n 2, 1) := by decide +kernel
theorem dX4_roomOf_24 : decode cX4_roomOf 24 = .ok (.aload_n 0, 1) := by decide +kernel
theorem dX4_roomOf_25 : decode cX4_roomOf 25 = .ok (.getfield 9, 3) := by decide +kernel
theorem dX4_roomOf_28 : decode cX4_roomOf 28 = .ok (.if_icmp .ge 12, 3) := by decide +kernel
theorem dX4_roomOf_31 : decode cX4_roomOf 31 = .ok (.aload_n 0, 1) := by decide +kernel
theorem dX4_roomOf_32 : decode cX4_roomOf 32 = .ok (.getfield 19, 3) := by decide +kernel
theorem dX4_roomOf_35 : decode cX4_roomOf 35 = .ok (.iload_n 2, 1) := by decide +kernel
theorem dX4_roomOf_36 : decode cX4_roomOf 36 = .ok (.iaload, 1) := by decide +kernel
theorem dX4_roomOf_37 : decode cX4_roomOf 37 = .ok (.goto 6, 3) := by decide +kernel
theorem dX4_roomOf_40 : decode cX4_roomOf 40 = .ok (.sipush 198, 3) := by decide +kernel
theorem dX4_roomOf_43 : decode cX4_roomOf 43 = .ok (.ireturn, 1) := by decide +kernel
theorem dX4_goOwnWay_0 : decode cX4_goOwnWay 0 = .ok (.aload_n 0, 1) := by decide +kernel
theorem dX4_goOwnWay_1 : decode cX4_goOwnWay 1 = .ok (.getfield 43, 3) := by decide +kernel
theorem dX4_goOwnWay_4 : decode cX4_goOwnWay 4 = .ok (.iload_n 1, 1) := by decide +kernel
theorem dX4_goOwnWay_5 : decode cX4_goOwnWay 5 = .ok (.iaload, 1) := by decide +kernel
theorem dX4_goOwnWay_6 : decode cX4_goOwnWay 6 = .ok (.istore_n 3, 1) := by decide +kernel
theorem dX4_goOwnWay_7 : decode cX4_goOwnWay 7 = .ok (.iload_n 3, 1) := by decide +kernel
theorem dX4_goOwnWay_8 : decode cX4_goOwnWay 8 = .ok (.iconst (-1), 1) := by decide +kernel
theorem dX4_goOwnWay_9 : decode cX4_goOwnWay 9 = .ok (.if_icmp .ne 16, 3) := by decide +kernel
theorem dX4_goOwnWay_12 : decode cX4_goOwnWay 12 = .ok (.aload_n 0, 1) := by decide +kernel
theorem dX4_goOwnWay_13 : decode cX4_goOwnWay 13 = .ok (.getfield 31, 3) := by decide +kernel
theorem dX4_goOwnWay_16 : decode cX4_goOwnWay 16 = .ok (.iload_n 1, 1) := by decide +kernel
theorem dX4_goOwnWay_17 : decode cX4_goOwnWay 17 = .ok (.dup2, 1) := by decide +kernel
theorem dX4_goOwnWay_18 : decode cX4_goOwnWay 18 = .ok (.iaload, 1) := by decide +kernel
theorem dX4_goOwnWay_19 : decode cX4_goOwnWay 19 = .ok (.iload_n 2, 1) := by decide +kernel
theorem dX4_goOwnWay_20 : decode cX4_goOwnWay 20 = .ok (.isub, 1) := by decide +kernel
theorem dX4_goOwnWay_21 : decode cX4_goOwnWay 21 = .ok (.iastore, 1) := by decide +kernel
theorem dX4_goOwnWay_22 : decode cX4_goOwnWay 22 = .ok (.goto 39, 3) := by decide +kernel
theorem dX4_goOwnWay_25 : decode cX4_goOwnWay 25 = .ok (.iload_n 3, 1) := by decide +kernel
theorem dX4_goOwnWay_26 : decode cX4_goOwnWay 26 = .ok (.ifCond .lt 35, 3) := by decide +kernel
theorem dX4_goOwnWay_29 : decode cX4_goOwnWay 29 = .ok (.iload_n 3, 1) := by decide +kernel
theorem dX4_goOwnWay_30 : decode cX4_goOwnWay 30 = .ok (.aload_n 0, 1) := by decide +kernel
theorem dX4_goOwnWay_31 : decode cX4_goOwnWay 31 = .ok (.getfield 9, 3) := by decide +kernel
theorem dX4_goOwnWay_34 : decode cX4_goOwnWay 34 = .ok (.if_icmp .ge 27, 3) := by decide +kernel
theorem dX4_goOwnWay_37 : decode cX4_goOwnWay 37 = .ok (.aload_n 0, 1) := by decide +kernel
theorem dX4_goOwnWay_38 : decode cX4_goOwnWay 38 = .ok (.getfield 19, 3) := by decide +kernel
theorem dX4_goOwnWay_41 : decode cX4_goOwnWay 41 = .ok (.iload_n 3, 1) := by decide +kernel
theorem dX4_goOwnWay_42 : decode cX4_goOwnWay 42 = .ok (.dup2, 1) := by decide +kernel
theorem dX4_goOwnWay_43 : decode cX4_goOwnWay 43 = .ok (.iaload, 1) := by decide +kernel
theorem dX4_goOwnWay_44 : decode cX4_goOwnWay 44 = .ok (.iload_n 2, 1) := by decide +kernel
theorem dX4_goOwnWay_45 : decode cX4_goOwnWay 45 = .ok (.isub, 1) := by decide +kernel
theorem dX4_goOwnWay_46 : decode cX4_goOwnWay 46 = .ok (.iastore, 1) := by decide +kernel
theorem dX4_goOwnWay_47 : decode cX4_goOwnWay 47 = .ok (.aload_n 0, 1) := by decide +kernel
theorem dX4_goOwnWay_48 : decode cX4_goOwnWay 48 = .ok (.getfield 37, 3) := by decide +kernel
theorem dX4_goOwnWay_51 : decode cX4_goOwnWay 51 = .ok (.iload_n 3, 1) := by decide +kernel
theorem dX4_goOwnWay_52 : decode cX4_goOwnWay 52 = .ok (.iconst 4, 1) := by decide +kernel
theorem dX4_goOwnWay_53 : decode cX4_goOwnWay 53 = .ok (.imul, 1) := by decide +kernel
theorem dX4_goOwnWay_54 : decode cX4_goOwnWay 54 = .ok (.iload_n 1, 1) := by decide +kernel
theorem dX4_goOwnWay_55 : decode cX4_goOwnWay 55 = .ok (.iadd, 1) := by decide +kernel
theorem dX4_goOwnWay_56 : decode cX4_goOwnWay 56 = .ok (.dup2, 1) := by decide +kernel
theorem dX4_goOwnWay_57 : decode cX4_goOwnWay 57 = .ok (.iaload, 1) := by decide +kernel
theorem dX4_goOwnWay_58 : decode cX4_goOwnWay 58 = .ok (.iload_n 2, 1) := by decide +kernel
theorem dX4_goOwnWay_59 : decode cX4_goOwnWay 59 = .ok (.iadd, 1) := by decide +kernel
theorem dX4_goOwnWay_60 : decode cX4_goOwnWay 60 = .ok (.iastore, 1) := by decide +kernel
theorem dX4_goOwnWay_61 : decode cX4_goOwnWay 61 = .ok (.return_, 1) := by decide +kernel
theorem dX5_worldsOf_0 : decode cX5_worldsOf 0 = .ok (.aload_n 0, 1) := by decide +kernel
theorem dX5_worldsOf_1 : decode cX5_worldsOf 1 = .ok (.invokevirtual 9, 3) := by decide +kernel
theorem dX5_worldsOf_4 : decode cX5_worldsOf 4 = .ok (.aload_n 0, 1) := by decide +kernel
theorem dX5_worldsOf_5 : decode cX5_worldsOf 5 = .ok (.iconst 0, 1) := by decide +kernel
theorem dX5_worldsOf_6 : decode cX5_worldsOf 6 = .ok (.invokestatic 14, 3) := by decide +kernel
theorem dX5_worldsOf_9 : decode cX5_worldsOf 9 = .ok (.istore_n 1, 1) := by decide +kernel
theorem dX5_worldsOf_10 : decode cX5_worldsOf 10 = .ok (.aload_n 0, 1) := by decide +kernel
theorem dX5_worldsOf_11 : decode cX5_worldsOf 11 = .ok (.invokevirtual 20, 3) := by decide +kernel
theorem dX5_worldsOf_14 : decode cX5_worldsOf 14 = .ok (.iload_n 1, 1) := by decide +kernel
theorem dX5_worldsOf_15 : decode cX5_worldsOf 15 = .ok (.ireturn, 1) := by decide +kernel
theorem dX5_readTest_0 : decode cX5_readTest 0 = .ok (.aload_n 0, 1) := by decide +kernel
theorem dX5_readTest_1 : decode cX5_readTest 1 = .ok (.iload_n 1, 1) := by decide +kernel
theorem dX5_readTest_2 : decode cX5_readTest 2 = .ok (.invokestatic 23, 3) := by decide +kernel
theorem dX5_readTest_5 : decode cX5_readTest 5 = .ok (.istore_n 2, 1) := by decide +kernel
theorem dX5_readTest_6 : decode cX5_readTest 6 = .ok (.iconst 0, 1) := by decide +kernel
theorem dX5_readTest_7 : decode cX5_readTest 7 = .ok (.istore_n 3, 1) := by decide +kernel
theorem dX5_readTest_8 : decode cX5_readTest 8 = .ok (.iload_n 3, 1) := by decide +kernel
theorem dX5_readTest_9 : decode cX5_readTest 9 = .ok (.bipush 40, 2) := by decide +kernel
theorem dX5_readTest_11 : decode cX5_readTest 11 = .ok (.if_icmp .ge 26, 3) := by decide +kernel
theorem dX5_readTest_14 : decode cX5_readTest 14 = .ok (.aload_n 0, 1) := by decide +kernel
theorem dX5_readTest_15 : decode cX5_readTest 15 = .ok (.bipush 124, 2) := by decide +kernel
theorem dX5_readTest_17 : decode cX5_readTest 17 = .ok (.invokevirtual 26, 3) := by decide +kernel
theorem dX5_readTest_20 : decode cX5_readTest 20 = .ok (.ifCond .eq 17, 3) := by decide +kernel
theorem dX5_readTest_23 : decode cX5_readTest 23 = .ok (.iload_n 2, 1) := by decide +kernel
theorem dX5_readTest_24 : decode cX5_readTest 24 = .ok (.aload_n 0, 1) := by decide +kernel
theorem dX5_readTest_25 : decode cX5_readTest 25 = .ok (.iload_n 1, 1) := by decide +kernel
theorem dX5_readTest_26 : decode cX5_readTest 26 = .ok (.invokestatic 23, 3) := by decide +kernel
theorem dX5_readTest_29 : decode cX5_readTest 29 = .ok (.ior, 1) := by decide +kernel
theorem dX5_readTest_30 : decode cX5_readTest 30 = .ok (.istore_n 2, 1) := by decide +kernel
theorem dX5_readTest_31 : decode cX5_readTest 31 = .ok (.iinc 3 1, 3) := by decide +kernel
theorem dX5_readTest_34 : decode cX5_readTest 34 = .ok (.goto (-26), 3) := by decide +kernel
theorem dX5_readTest_37 : decode cX5_readTest 37 = .ok (.iload_n 2, 1) := by decide +kernel
theorem dX5_readTest_38 : decode cX5_readTest 38 = .ok (.ireturn, 1) := by decide +kernel
theorem dX5_readTerm_0 : decode cX5_readTerm 0 = .ok (.aload_n 0, 1) := by decide +kernel
theorem dX5_readTerm_1 : decode cX5_readTerm 1 = .ok (.iload_n 1, 1) := by decide +kernel
theorem dX5_readTerm_2 : decode cX5_readTerm 2 = .ok (.invokestatic 30, 3) := by decide +kernel
theorem dX5_readTerm_5 : decode cX5_readTerm 5 = .ok (.istore_n 2, 1) := by decide +kernel
theorem dX5_readTerm_6 : decode cX5_readTerm 6 = .ok (.iconst 0, 1) := by decide +kernel
theorem dX5_readTerm_7 : decode cX5_readTerm 7 = .ok (.istore_n 3, 1) := by decide +kernel
theorem dX5_readTerm_8 : decode cX5_readTerm 8 = .ok (.iload_n 3, 1) := by decide +kernel
theorem dX5_readTerm_9 : decode cX5_readTerm 9 = .ok (.bipush 40, 2) := by decide +kernel
theorem dX5_readTerm_11 : decode cX5_readTerm 11 = .ok (.if_icmp .ge 26, 3) := by decide +kernel
theorem dX5_readTerm_14 : decode cX5_readTerm 14 = .ok (.aload_n 0, 1) := by decide +kernel
theorem dX5_readTerm_15 : decode cX5_readTerm 15 = .ok (.bipush 38, 2) := by decide +kernel
theorem dX5_readTerm_17 : decode cX5_readTerm 17 = .ok (.invokevirtual 26, 3) := by decide +kernel
theorem dX5_readTerm_20 : decode cX5_readTerm 20 = .ok (.ifCond .eq 17, 3) := by decide +kernel
theorem dX5_readTerm_23 : decode cX5_readTerm 23 = .ok (.iload_n 2, 1) := by decide +kernel
theorem dX5_readTerm_24 : decode cX5_readTerm 24 = .ok (.aload_n 0, 1) := by decide +kernel
theorem dX5_readTerm_25 : decode cX5_readTerm 25 = .ok (.iload_n 1, 1) := by decide +kernel
theorem dX5_readTerm_26 : decode cX5_readTerm 26 = .ok (.invokestatic 30, 3) := by decide +kernel
theorem dX5_readTerm_29 : decode cX5_readTerm 29 = .ok (.iand, 1) := by decide +kernel
theorem dX5_readTerm_30 : decode cX5_readTerm 30 = .ok (.istore_n 2, 1) := by decide +kernel
theorem dX5_readTerm_31 : decode cX5_readTerm 31 = .ok (.iinc 3 1, 3) := by decide +kernel
theorem dX5_readTerm_34 : decode cX5_readTerm 34 = .ok (.goto (-26), 3) := by decide +kernel
theorem dX5_readTerm_37 : decode cX5_readTerm 37 = .ok (.iload_n 2, 1) := by decide +kernel
theorem dX5_readTerm_38 : decode cX5_readTerm 38 = .ok (.ireturn, 1) := by decide +kernel
theorem dX5_readPart_0 : decode cX5_readPart 0 = .ok (.aload_n 0, 1) := by decide +kernel
theorem dX5_readPart_1 : decode cX5_readPart 1 = .ok (.getfield 33, 3) := by decide +kernel
theorem dX5_readPart_4 : decode cX5_readPart 4 = .ok (.istore_n 2, 1) := by decide +kernel
theorem dX5_readPart_5 : decode cX5_readPart 5 = .ok (.aload_n 0, 1) := by decide +kernel
theorem dX5_readPart_6 : decode cX5_readPart 6 = .ok (.bipush 98, 2) := by decide +kernel
theorem dX5_readPart_8 : decode cX5_readPart 8 = .ok (.invokevirtual 26, 3) := by decide +kernel
theorem dX5_readPart_11 : decode cX5_readPart 11 = .ok (.ifCond .eq 11, 3) := by decide +kernel
theorem dX5_readPart_14 : decode cX5_readPart 14 = .ok (.aload_n 0, 1) := by decide +kernel
theorem dX5_readPart_15 : decode cX5_readPart 15 = .ok (.invokevirtual 37, 3) := by decide +kernel
theorem dX5_readPart_18 : decode cX5_readPart 18 = .ok (.invokestatic 41, 3) := by decide +kernel
theorem dX5_readPart_21 : decode cX5_readPart 21 = .ok (.ireturn, 1) := by decide +kernel
theorem dX5_readPart_22 : decode cX5_readPart 22 = .ok (.aload_n 0, 1) := by decide +kernel
theorem dX5_readPart_23 : decode cX5_readPart 23 = .ok (.bipush 110, 2) := by decide +kernel
theorem dX5_readPart_25 : decode cX5_readPart 25 = .ok (.invokevirtual 26, 3) := by decide +kernel
theorem dX5_readPart_28 : decode cX5_readPart 28 = .ok (.ifCond .eq 8, 3) := by decide +kernel
theorem dX5_readPart_31 : decode cX5_readPart 31 = .ok (.aload_n 0, 1) := by decide +kernel
theorem dX5_readPart_32 : decode cX5_readPart 32 = .ok (.invokestatic 45, 3) := by decide +kernel
theorem dX5_readPart_35 : decode cX5_readPart 35 = .ok (.ireturn, 1) := by decide +kernel
theorem dX5_readPart_36 : decode cX5_readPart 36 = .ok (.aload_n 0, 1) := by decide +kernel
theorem dX5_readPart_37 : decode cX5_readPart 37 = .ok (.bipush 33, 2) := by decide +kernel
theorem dX5_readPart_39 : decode cX5_readPart 39 = .ok (.invokevirtual 26, 3) := by decide +kernel
theorem dX5_readPart_42 : decode cX5_readPart 42 = .ok (.istore_n 3, 1) := by decide +kernel
theorem dX5_readPart_43 : decode cX5_readPart 43 = .ok (.iload_n 3, 1) := by decide +kernel
theorem dX5_readPart_44 : decode cX5_readPart 44 = .ok (.ifCond .ne 12, 3) := by decide +kernel
theorem dX5_readPart_47 : decode cX5_readPart 47 = .ok (.aload_n 0, 1) := by decide +kernel
theorem dX5_readPart_48 : decode cX5_readPart 48 = .ok (.bipush 40, 2) := by decide +kernel
theorem dX5_readPart_50 : decode cX5_readPart 50 = .ok (.invokevirtual 26, 3) := by decide +kernel
theorem dX5_readPart_53 : decode cX5_readPart 53 = .ok (.ifCond .eq 8, 3) := by decide +kernel
theorem dX5_readPart_56 : decode cX5_readPart 56 = .ok (.iload_n 1, 1) := by decide +kernel
theorem dX5_readPart_57 : decode cX5_readPart 57 = .ok (.iconst 4, 1) := by decide +kernel
theorem dX5_readPart_58 : decode cX5_readPart 58 = .ok (.if_icmp .lt 10, 3) := by decide +kernel
theorem dX5_readPart_61 : decode cX5_readPart 61 = .ok (.aload_n 0, 1) := by decide +kernel
theorem dX5_readPart_62 : decode cX5_readPart 62 = .ok (.iload_n 2, 1) := by decide +kernel
theorem dX5_readPart_63 : decode cX5_readPart 63 = .ok (.invokevirtual 49, 3) := by decide +kernel
theorem dX5_readPart_66 : decode cX5_readPart 66 = .ok (.iconst 0, 1) := by decide +kernel
theorem dX5_readPart_67 : decode cX5_readPart 67 = .ok (.ireturn, 1) := by decide +kernel
theorem dX5_readPart_68 : decode cX5_readPart 68 = .ok (.iload_n 3, 1) := by decide +kernel
theorem dX5_readPart_69 : decode cX5_readPart 69 = .ok (.ifCond .eq 16, 3) := by decide +kernel
theorem dX5_readPart_72 : decode cX5_readPart 72 = .ok (.ldc 53, 2) := by decide +kernel
theorem dX5_readPart_74 : decode cX5_readPart 74 = .ok (.aload_n 0, 1) := by decide +kernel
theorem dX5_readPart_75 : decode cX5_readPart 75 = .ok (.iload_n 1, 1) := by decide +kernel
theorem dX5_readPart_76 : decode cX5_readPart 76 = .ok (.iconst 1, 1) := by decide +kernel
theorem dX5_readPart_77 : decode cX5_readPart 77 = .ok (.iadd, 1) := by decide +kernel
theorem dX5_readPart_78 : decode cX5_readPart 78 = .ok (.invokestatic 30, 3) := by decide +kernel
theorem dX5_readPart_81 : decode cX5_readPart 81 = .ok (.iconst (-1), 1) := by decide +kernel
theorem dX5_readPart_82 : decode cX5_readPart 82 = .ok (.ixor, 1) := by decide +kernel
theorem dX5_readPart_83 : decode cX5_readPart 83 = .ok (.iand, 1) := by decide +kernel
theorem dX5_readPart_84 : decode cX5_readPart 84 = .ok (.ireturn, 1) := by decide +kernel
theorem dX5_readPart_85 : decode cX5_readPart 85 = .ok (.aload_n 0, 1) := by decide +kernel
theorem dX5_readPart_86 : decode cX5_readPart 86 = .ok (.iload_n 1, 1) := by decide +kernel
theorem dX5_readPart_87 : decode cX5_readPart 87 = .ok (.iconst 1, 1) := by decide +kernel
theorem dX5_readPart_88 : decode cX5_readPart 88 = .ok (.iadd, 1) := by decide +kernel
theorem dX5_readPart_89 : decode cX5_readPart 89 = .ok (.invokestatic 14, 3) := by decide +kernel
theorem dX5_readPart_92 : decode cX5_readPart 92 = .ok (.istore 4, 2) := by decide +kernel
theorem dX5_readPart_94 : decode cX5_readPart 94 = .ok (.aload_n 0, 1) := by decide +kernel
theorem dX5_readPart_95 : decode cX5_readPart 95 = .ok (.bipush 41, 2) := by decide +kernel
theorem dX5_readPart_97 : decode cX5_readPart 97 = .ok (.invokevirtual 26, 3) := by decide +kernel
theorem dX5_readPart_100 : decode cX5_readPart 100 = .ok (.ifCond .ne 11, 3) := by decide +kernel
theorem dX5_readPart_103 : decode cX5_readPart 103 = .ok (.aload_n 0, 1) := by decide +kernel
theorem dX5_readPart_104 : decode cX5_readPart 104 = .ok (.aload_n 0, 1) := by decide +kernel
theorem dX5_readPart_105 : decode cX5_readPart 105 = .ok (.getfield 33, 3) := by decide +kernel
theorem dX5_readPart_108 : decode cX5_readPart 108 = .ok (.invokevirtual 49, 3) := by decide +kernel
theorem dX5_readPart_111 : decode cX5_readPart 111 = .ok (.iload 4, 2) := by decide +kernel
theorem dX5_readPart_113 : decode cX5_readPart 113 = .ok (.ireturn, 1) := by decide +kernel
theorem dX5_readCount_0 : decode cX5_readCount 0 = .ok (.aload_n 0, 1) := by decide +kernel
theorem dX5_readCount_1 : decode cX5_readCount 1 = .ok (.invokevirtual 54, 3) := by decide +kernel
theorem dX5_readCount_4 : decode cX5_readCount 4 = .ok (.istore_n 1, 1) := by decide +kernel
theorem dX5_readCount_5 : decode cX5_readCount 5 = .ok (.iload_n 1, 1) := by decide +kernel
theorem dX5_readCount_6 : decode cX5_readCount 6 = .ok (.bipush 60, 2) := by decide +kernel
theorem dX5_readCount_8 : decode cX5_readCount 8 = .ok (.if_icmp .eq 25, 3) := by decide +kernel
theorem dX5_readCount_11 : decode cX5_readCount 11 = .ok (.iload_n 1, 1) := by decide +kernel
theorem dX5_readCount_12 : decode cX5_readCount 12 = .ok (.bipush 61, 2) := by decide +kernel
theorem dX5_readCount_14 : decode cX5_readCount 14 = .ok (.if_icmp .eq 19, 3) := by decide +kernel
theorem dX5_readCount_17 : decode cX5_readCount 17 = .ok (.iload_n 1, 1) := by decide +kernel
theorem dX5_readCount_18 : decode cX5_readCount 18 = .ok (.bipush 62, 2) := by decide +kernel
theorem dX5_readCount_20 : decode cX5_readCount 20 = .ok (.if_icmp .eq 13, 3) := by decide +kernel
theorem dX5_readCount_23 : decode cX5_readCount 23 = .ok (.aload_n 0, 1) := by decide +kernel
theorem dX5_readCount_24 : decode cX5_readCount 24 = .ok (.aload_n 0, 1) := by decide +kernel
theorem dX5_readCount_25 : decode cX5_readCount 25 = .ok (.getfield 33, 3) := by decide +kernel
theorem dX5_readCount_28 : decode cX5_readCount 28 = .ok (.invokevirtual 49, 3) := by decide +kernel
theorem dX5_readCount_31 : decode cX5_readCount 31 = .ok (.iconst 0, 1) := by decide +kernel
theorem dX5_readCount_32 : decode cX5_readCount 32 = .ok (.ireturn, 1) := by decide +kernel
theorem dX5_readCount_33 : decode cX5_readCount 33 = .ok (.aload_n 0, 1) := by decide +kernel
theorem dX5_readCount_34 : decode cX5_readCount 34 = .ok (.iload_n 1, 1) := by decide +kernel
theorem dX5_readCount_35 : decode cX5_readCount 35 = .ok (.invokevirtual 26, 3) := by decide +kernel
theorem dX5_readCount_38 : decode cX5_readCount 38 = .ok (.pop, 1) := by decide +kernel
theorem dX5_readCount_39 : decode cX5_readCount 39 = .ok (.aload_n 0, 1) := by decide +kernel
theorem dX5_readCount_40 : decode cX5_readCount 40 = .ok (.invokevirtual 37, 3) := by decide +kernel
theorem dX5_readCount_43 : decode cX5_readCount 43 = .ok (.istore_n 2, 1) := by decide +kernel
theorem dX5_readCount_44 : decode cX5_readCount 44 = .ok (.iconst 0, 1) := by decide +kernel
theorem dX5_readCount_45 : decode cX5_readCount 45 = .ok (.istore_n 3, 1) := by decide +kernel
theorem dX5_readCount_46 : decode cX5_readCount 46 = .ok (.iconst 0, 1) := by decide +kernel
theorem dX5_readCount_47 : decode cX5_readCount 47 = .ok (.istore 4, 2) := by decide +kernel
theorem dX5_readCount_49 : decode cX5_readCount 49 = .ok (.iload 4, 2) := by decide +kernel
theorem dX5_readCount_51 : decode cX5_readCount 51 = .ok (.bipush 16, 2) := by decide +kernel
theorem dX5_readCount_53 : decode cX5_readCount 53 = .ok (.if_icmp .ge 81, 3) := by decide +kernel
theorem dX5_readCount_56 : decode cX5_readCount 56 = .ok (.iload 4, 2) := by decide +kernel
theorem dX5_readCount_58 : decode cX5_readCount 58 = .ok (.invokestatic 57, 3) := by decide +kernel
theorem dX5_readCount_61 : decode cX5_readCount 61 = .ok (.istore 5, 2) := by decide +kernel
theorem dX5_readCount_63 : decode cX5_readCount 63 = .ok (.iload_n 1, 1) := by decide +kernel
theorem dX5_readCount_64 : decode cX5_readCount 64 = .ok (.bipush 60, 2) := by decide +kernel
theorem dX5_readCount_66 : decode cX5_readCount 66 = .ok (.if_icmp .ne 17, 3) := by decide +kernel
theorem dX5_readCount_69 : decode cX5_readCount 69 = .ok (.iload 5, 2) := by decide +kernel
theorem dX5_readCount_71 : decode cX5_readCount 71 = .ok (.iload_n 2, 1) := by decide +kernel
theorem dX5_readCount_72 : decode cX5_readCount 72 = .ok (.if_icmp .ge 7, 3) := by decide +kernel
theorem dX5_readCount_75 : decode cX5_readCount 75 = .ok (.iconst 1, 1) := by decide +kernel
theorem dX5_readCount_76 : decode cX5_readCount 76 = .ok (.goto 38, 3) := by decide +kernel
theorem dX5_readCount_79 : decode cX5_readCount 79 = .ok (.iconst 0, 1) := by decide +kernel
theorem dX5_readCount_80 : decode cX5_readCount 80 = .ok (.goto 34, 3) := by decide +kernel
theorem dX5_readCount_83 : decode cX5_readCount 83 = .ok (.iload_n 1, 1) := by decide +kernel
theorem dX5_readCount_84 : decode cX5_readCount 84 = .ok (.bipush 62, 2) := by decide +kernel
theorem dX5_readCount_86 : decode cX5_readCount 86 = .ok (.if_icmp .ne 17, 3) := by decide +kernel
theorem dX5_readCount_89 : decode cX5_readCount 89 = .ok (.iload 5, 2) := by decide +kernel
theorem dX5_readCount_91 : decode cX5_readCount 91 = .ok (.iload_n 2, 1) := by decide +kernel
theorem dX5_readCount_92 : decode cX5_readCount 92 = .ok (.if_icmp .le 7, 3) := by decide +kernel
theorem dX5_readCount_95 : decode cX5_readCount 95 = .ok (.iconst 1, 1) := by decide +kernel
theorem dX5_readCount_96 : decode cX5_readCount 96 = .ok (.goto 18, 3) := by decide +kernel
theorem dX5_readCount_99 : decode cX5_readCount 99 = .ok (.iconst 0, 1) := by decide +kernel
theorem dX5_readCount_100 : decode cX5_readCount 100 = .ok (.goto 14, 3) := by decide +kernel
theorem dX5_readCount_103 : decode cX5_readCount 103 = .ok (.iload 5, 2) := by decide +kernel
theorem dX5_readCount_105 : decode cX5_readCount 105 = .ok (.iload_n 2, 1) := by decide +kernel
theorem dX5_readCount_106 : decode cX5_readCount 106 = .ok (.if_icmp .ne 7, 3) := by decide +kernel
theorem dX5_readCount_109 : decode cX5_readCount 109 = .ok (.iconst 1, 1) := by decide +kernel
theorem dX5_readCount_110 : decode cX5_readCount 110 = .ok (.goto 4, 3) := by decide +kernel
theorem dX5_readCount_113 : decode cX5_readCount 113 = .ok (.iconst 0, 1) := by decide +kernel
theorem dX5_readCount_114 : decode cX5_readCount 114 = .ok (.istore 6, 2) := by decide +kernel
theorem dX5_readCount_116 : decode cX5_readCount 116 = .ok (.iload 6, 2) := by decide +kernel
theorem dX5_readCount_118 : decode cX5_readCount 118 = .ok (.ifCond .eq 10, 3) := by decide +kernel
theorem dX5_readCount_121 : decode cX5_readCount 121 = .ok (.iload_n 3, 1) := by decide +kernel
theorem dX5_readCount_122 : decode cX5_readCount 122 = .ok (.iconst 1, 1) := by decide +kernel
theorem dX5_readCount_123 : decode cX5_readCount 123 = .ok (.iload 4, 2) := by decide +kernel
theorem dX5_readCount_125 : decode cX5_readCount 125 = .ok (.ishl, 1) := by decide +kernel
theorem dX5_readCount_126 : decode cX5_readCount 126 = .ok (.ior, 1) := by decide +kernel
theorem dX5_readCount_127 : decode cX5_readCount 127 = .ok (.istore_n 3, 1) := by decide +kernel
theorem dX5_readCount_128 : decode cX5_readCount 128 = .ok (.iinc 4 1, 3) := by decide +kernel
theorem dX5_readCount_131 : decode cX5_readCount 131 = .ok (.goto (-82), 3) := by decide +kernel
theorem dX5_readCount_134 : decode cX5_readCount 134 = .ok (.iload_n 3, 1) := by decide +kernel
theorem dX5_readCount_135 : decode cX5_readCount 135 = .ok (.ireturn, 1) := by decide +kernel
theorem dX5_worldsBad_0 : decode cX5_worldsBad 0 = .ok (.iload_n 0, 1) := by decide +kernel
theorem dX5_worldsBad_1 : decode cX5_worldsBad 1 = .ok (.iconst 4, 1) := by decide +kernel
theorem dX5_worldsBad_2 : decode cX5_worldsBad 2 = .ok (.if_icmp .ge 17, 3) := by decide +kernel
theorem dX5_worldsBad_5 : decode cX5_worldsBad 5 = .ok (.ldc 53, 2) := by decide +kernel
theorem dX5_worldsBad_7 : decode cX5_worldsBad 7 = .ok (.iconst 1, 1) := by decide +kernel
theorem dX5_worldsBad_8 : decode cX5_worldsBad 8 = .ok (.iload_n 0, 1) := by decide +kernel
theorem dX5_worldsBad_9 : decode cX5_worldsBad 9 = .ok (.ishl, 1) := by decide +kernel
theorem dX5_worldsBad_10 : decode cX5_worldsBad 10 = .ok (.iconst 1, 1) := by decide +kernel
theorem dX5_worldsBad_11 : decode cX5_worldsBad 11 = .ok (.iload_n 0, 1) := by decide +kernel
theorem dX5_worldsBad_12 : decode cX5_worldsBad 12 = .ok (.ishl, 1) := by decide +kernel
theorem dX5_worldsBad_13 : decode cX5_worldsBad 13 = .ok (.invokestatic 62, 3) := by decide +kernel
theorem dX5_worldsBad_16 : decode cX5_worldsBad 16 = .ok (.goto 4, 3) := by decide +kernel
theorem dX5_worldsBad_19 : decode cX5_worldsBad 19 = .ok (.iconst 0, 1) := by decide +kernel
theorem dX5_worldsBad_20 : decode cX5_worldsBad 20 = .ok (.ireturn, 1) := by decide +kernel
theorem dX6_failureOf_0 : decode cX6_failureOf 0 = .ok (.iconst 0, 1) := by decide +kernel
theorem dX6_failureOf_1 : decode cX6_failureOf 1 = .ok (.istore 4, 2) := by decide +kernel
theorem dX6_failureOf_3 : decode cX6_failureOf 3 = .ok (.iload 4, 2) := by decide +kernel
theorem dX6_failureOf_5 : decode cX6_failureOf 5 = .ok (.aload_n 0, 1) := by decide +kernel
theorem dX6_failureOf_6 : decode cX6_failureOf 6 = .ok (.arraylength, 1) := by decide +kernel
theorem dX6_failureOf_7 : decode cX6_failureOf 7 = .ok (.if_icmp .ge 29, 3) := by decide +kernel
theorem dX6_failureOf_10 : decode cX6_failureOf 10 = .ok (.aload_n 0, 1) := by decide +kernel
theorem dX6_failureOf_11 : decode cX6_failureOf 11 = .ok (.iload 4, 2) := by decide +kernel
theorem dX6_failureOf_13 : decode cX6_failureOf 13 = .ok (.iaload, 1) := by decide +kernel
theorem dX6_failureOf_14 : decode cX6_failureOf 14 = .ok (.ifCond .lt 13, 3) := by decide +kernel
theorem dX6_failureOf_17 : decode cX6_failureOf 17 = .ok (.aload_n 0, 1) := by decide +kernel
theorem dX6_failureOf_18 : decode cX6_failureOf 18 = .ok (.iload 4, 2) := by decide +kernel
theorem dX6_failureOf_20 : decode cX6_failureOf 20 = .ok (.iaload, 1) := by decide +kernel
theorem dX6_failureOf_21 : decode cX6_failureOf 21 = .ok (.sipush 9999, 3) := by decide +kernel
theorem dX6_failureOf_24 : decode cX6_failureOf 24 = .ok (.if_icmp .le 6, 3) := by decide +kernel
theorem dX6_failureOf_27 : decode cX6_failureOf 27 = .ok (.iload 4, 2) := by decide +kernel
theorem dX6_failureOf_29 : decode cX6_failureOf 29 = .ok (.ireturn, 1) := by decide +kernel
theorem dX6_failureOf_30 : decode cX6_failureOf 30 = .ok (.iinc 4 1, 3) := by decide +kernel
theorem dX6_failureOf_33 : decode cX6_failureOf 33 = .ok (.goto (-30), 3) := by decide +kernel
theorem dX6_failureOf_36 : decode cX6_failureOf 36 = .ok (.iconst 0, 1) := by decide +kernel
theorem dX6_failureOf_37 : decode cX6_failureOf 37 = .ok (.istore 4, 2) := by decide +kernel
theorem dX6_failureOf_39 : decode cX6_failureOf 39 = .ok (.iload 4, 2) := by decide +kernel
theorem dX6_failureOf_41 : decode cX6_failureOf 41 = .ok (.iconst 4, 1) := by decide +kernel
theorem dX6_failureOf_42 : decode cX6_failureOf 42 = .ok (.if_icmp .ge 42, 3) := by decide +kernel
theorem dX6_failureOf_45 : decode cX6_failureOf 45 = .ok (.aload_n 1, 1) := by decide +kernel
theorem dX6_failureOf_46 : decode cX6_failureOf 46 = .ok (.iload 4, 2) := by decide +kernel
theorem dX6_failureOf_48 : decode cX6_failureOf 48 = .ok (.iload_n 2, 1) := by decide +kernel
theorem dX6_failureOf_49 : decode cX6_failureOf 49 = .ok (.iload_n 3, 1) := by decide +kernel
theorem dX6_failureOf_50 : decode cX6_failureOf 50 = .ok (.invokevirtual 9, 3) := by decide +kernel
theorem dX6_failureOf_53 : decode cX6_failureOf 53 = .ok (.ifCond .lt 6, 3) := by decide +kernel
theorem dX6_failureOf_56 : decode cX6_failureOf 56 = .ok (.goto 22, 3) := by decide +kernel
theorem dX6_failureOf_59 : decode cX6_failureOf 59 = .ok (.iload 4, 2) := by decide +kernel
theorem dX6_failureOf_61 : decode cX6_failureOf 61 = .ok (.aload_n 0, 1) := by decide +kernel
theorem dX6_failureOf_62 : decode cX6_failureOf 62 = .ok (.aload_n 1, 1) := by decide +kernel
theorem dX6_failureOf_63 : decode cX6_failureOf 63 = .ok (.iload_n 2, 1) := by decide +kernel
theorem dX6_failureOf_64 : decode cX6_failureOf 64 = .ok (.iload_n 3, 1) := by decide +kernel
theorem dX6_failureOf_65 : decode cX6_failureOf 65 = .ok (.invokestatic 15, 3) := by decide +kernel
theorem dX6_failureOf_68 : decode cX6_failureOf 68 = .ok (.istore 5, 2) := by decide +kernel
theorem dX6_failureOf_70 : decode cX6_failureOf 70 = .ok (.iload 5, 2) := by decide +kernel
theorem dX6_failureOf_72 : decode cX6_failureOf 72 = .ok (.ifCond .lt 6, 3) := by decide +kernel
theorem dX6_failureOf_75 : decode cX6_failureOf 75 = .ok (.iload 5, 2) := by decide +kernel
theorem dX6_failureOf_77 : decode cX6_failureOf 77 = .ok (.ireturn, 1) := by decide +kernel
theorem dX6_failureOf_78 : decode cX6_failureOf 78 = .ok (.iinc 4 1, 3) := by decide +kernel
theorem dX6_failureOf_81 : decode cX6_failureOf 81 = .ok (.goto (-42), 3) := by decide +kernel
theorem dX6_failureOf_84 : decode cX6_failureOf 84 = .ok (.iconst (-1), 1) := by decide +kernel
theorem dX6_failureOf_85 : decode cX6_failureOf 85 = .ok (.ireturn, 1) := by decide +kernel
theorem dX6_failureAt_0 : decode cX6_failureAt 0 = .ok (.aload_n 1, 1) := by decide +kernel
theorem dX6_failureAt_1 : decode cX6_failureAt 1 = .ok (.arraylength, 1) := by decide +kernel
theorem dX6_failureAt_2 : decode cX6_failureAt 2 = .ok (.bipush 12, 2) := by decide +kernel
theorem dX6_failureAt_4 : decode cX6_failureAt 4 = .ok (.if_icmp .ge 5, 3) := by decide +kernel
theorem dX6_failureAt_7 : decode cX6_failureAt 7 = .ok (.iconst (-1), 1) := by decide +kernel
theorem dX6_failureAt_8 : decode cX6_failureAt 8 = .ok (.ireturn, 1) := by decide +kernel
theorem dX6_failureAt_9 : decode cX6_failureAt 9 = .ok (.aload_n 1, 1) := by decide +kernel
theorem dX6_failureAt_10 : decode cX6_failureAt 10 = .ok (.iload_n 0, 1) := by decide +kernel
theorem dX6_failureAt_11 : decode cX6_failureAt 11 = .ok (.iaload, 1) := by decide +kernel
theorem dX6_failureAt_12 : decode cX6_failureAt 12 = .ok (.istore 5, 2) := by decide +kernel
theorem dX6_failureAt_14 : decode cX6_failureAt 14 = .ok (.iconst 0, 1) := by decide +kernel
theorem dX6_failureAt_15 : decode cX6_failureAt 15 = .ok (.istore 6, 2) := by decide +kernel
theorem dX6_failureAt_17 : decode cX6_failureAt 17 = .ok (.iload 6, 2) := by decide +kernel
theorem dX6_failureAt_19 : decode cX6_failureAt 19 = .ok (.iconst 4, 1) := by decide +kernel
theorem dX6_failureAt_20 : decode cX6_failureAt 20 = .ok (.if_icmp .ge 62, 3) := by decide +kernel
theorem dX6_failureAt_23 : decode cX6_failureAt 23 = .ok (.aload_n 2, 1) := by decide +kernel
theorem dX6_failureAt_24 : decode cX6_failureAt 24 = .ok (.getfield 21, 3) := by decide +kernel
theorem dX6_failureAt_27 : decode cX6_failureAt 27 = .ok (.bipush 24, 2) := by decide +kernel
theorem dX6_failureAt_29 : decode cX6_failureAt 29 = .ok (.iload 6, 2) := by decide +kernel
theorem dX6_failureAt_31 : decode cX6_failureAt 31 = .ok (.iconst 4, 1) := by decide +kernel
theorem dX6_failureAt_32 : decode cX6_failureAt 32 = .ok (.imul, 1) := by decide +kernel
theorem dX6_failureAt_33 : decode cX6_failureAt 33 = .ok (.iadd, 1) := by decide +kernel
theorem dX6_failureAt_34 : decode cX6_failureAt 34 = .ok (.iload_n 0, 1) := by decide +kernel
theorem dX6_failureAt_35 : decode cX6_failureAt 35 = .ok (.iadd, 1) := by decide +kernel
theorem dX6_failureAt_36 : decode cX6_failureAt 36 = .ok (.iaload, 1) := by decide +kernel
theorem dX6_failureAt_37 : decode cX6_failureAt 37 = .ok (.istore 7, 2) := by decide +kernel
theorem dX6_failureAt_39 : decode cX6_failureAt 39 = .ok (.aload_n 2, 1) := by decide +kernel
theorem dX6_failureAt_40 : decode cX6_failureAt 40 = .ok (.iload 6, 2) := by decide +kernel
theorem dX6_failureAt_42 : decode cX6_failureAt 42 = .ok (.iload_n 3, 1) := by decide +kernel
theorem dX6_failureAt_43 : decode cX6_failureAt 43 = .ok (.iload 4, 2) := by decide +kernel
theorem dX6_failureAt_45 : decode cX6_failureAt 45 = .ok (.invokevirtual 9, 3) := by decide +kernel
theorem dX6_failureAt_48 : decode cX6_failureAt 48 = .ok (.ifCond .le 28, 3) := by decide +kernel
theorem dX6_failureAt_51 : decode cX6_failureAt 51 = .ok (.iload 5, 2) := by decide +kernel
theorem dX6_failureAt_53 : decode cX6_failureAt 53 = .ok (.aload_n 1, 1) := by decide +kernel
theorem dX6_failureAt_54 : decode cX6_failureAt 54 = .ok (.iconst 4, 1) := by decide +kernel
theorem dX6_failureAt_55 : decode cX6_failureAt 55 = .ok (.iload 6, 2) := by decide +kernel
theorem dX6_failureAt_57 : decode cX6_failureAt 57 = .ok (.iadd, 1) := by decide +kernel
theorem dX6_failureAt_58 : decode cX6_failureAt 58 = .ok (.iaload, 1) := by decide +kernel
theorem dX6_failureAt_59 : decode cX6_failureAt 59 = .ok (.iload 7, 2) := by decide +kernel
theorem dX6_failureAt_61 : decode cX6_failureAt 61 = .ok (.iadd, 1) := by decide +kernel
theorem dX6_failureAt_62 : decode cX6_failureAt 62 = .ok (.if_icmp .le 14, 3) := by decide +kernel
theorem dX6_failureAt_65 : decode cX6_failureAt 65 = .ok (.bipush 100, 2) := by decide +kernel
theorem dX6_failureAt_67 : decode cX6_failureAt 67 = .ok (.bipush 10, 2) := by decide +kernel
theorem dX6_failureAt_69 : decode cX6_failureAt 69 = .ok (.iload 6, 2) := by decide +kernel
theorem dX6_failureAt_71 : decode cX6_failureAt 71 = .ok (.imul, 1) := by decide +kernel
theorem dX6_failureAt_72 : decode cX6_failureAt 72 = .ok (.iadd, 1) := by decide +kernel
theorem dX6_failureAt_73 : decode cX6_failureAt 73 = .ok (.iload_n 0, 1) := by decide +kernel
theorem dX6_failureAt_74 : decode cX6_failureAt 74 = .ok (.iadd, 1) := by decide +kernel
theorem dX6_failureAt_75 : decode cX6_failureAt 75 = .ok (.ireturn, 1) := by decide +kernel
theorem dX6_failureAt_76 : decode cX6_failureAt 76 = .ok (.iinc 6 1, 3) := by decide +kernel
theorem dX6_failureAt_79 : decode cX6_failureAt 79 = .ok (.goto (-62), 3) := by decide +kernel
theorem dX6_failureAt_82 : decode cX6_failureAt 82 = .ok (.iload 5, 2) := by decide +kernel
theorem dX6_failureAt_84 : decode cX6_failureAt 84 = .ok (.aload_n 1, 1) := by decide +kernel
theorem dX6_failureAt_85 : decode cX6_failureAt 85 = .ok (.bipush 8, 2) := by decide +kernel
theorem dX6_failureAt_87 : decode cX6_failureAt 87 = .ok (.iload_n 0, 1) := by decide +kernel
theorem dX6_failureAt_88 : decode cX6_failureAt 88 = .ok (.iadd, 1) := by decide +kernel
theorem dX6_failureAt_89 : decode cX6_failureAt 89 = .ok (.iaload, 1) := by decide +kernel
theorem dX6_failureAt_90 : decode cX6_failureAt 90 = .ok (.aload_n 2, 1) := by decide +kernel
theorem dX6_failureAt_91 : decode cX6_failureAt 91 = .ok (.getfield 21, 3) := by decide +kernel
theorem dX6_failureAt_94 : decode cX6_failureAt 94 = .ok (.iload_n 0, 1) := by decide +kernel
theorem dX6_failureAt_95 : decode cX6_failureAt 95 = .ok (.bipush 6, 2) := by decide +kernel
theorem dX6_failureAt_97 : decode cX6_failureAt 97 = .ok (.imul, 1) := by decide +kernel
theorem dX6_failureAt_98 : decode cX6_failureAt 98 = .ok (.iconst 3, 1) := by decide +kernel
theorem dX6_failureAt_99 : decode cX6_failureAt 99 = .ok (.iadd, 1) := by decide +kernel
theorem dX6_failureAt_100 : decode cX6_failureAt 100 = .ok (.iaload, 1) := by decide +kernel
theorem dX6_failureAt_101 : decode cX6_failureAt 101 = .ok (.iadd, 1) := by decide +kernel
theorem dX6_failureAt_102 : decode cX6_failureAt 102 = .ok (.if_icmp .le 9, 3) := by decide +kernel
theorem dX6_failureAt_105 : decode cX6_failureAt 105 = .ok (.sipush 200, 3) := by decide +kernel
theorem dX6_failureAt_108 : decode cX6_failureAt 108 = .ok (.iload_n 0, 1) := by decide +kernel
theorem dX6_failureAt_109 : decode cX6_failureAt 109 = .ok (.iadd, 1) := by decide +kernel
theorem dX6_failureAt_110 : decode cX6_failureAt 110 = .ok (.ireturn, 1) := by decide +kernel
theorem dX6_failureAt_111 : decode cX6_failureAt 111 = .ok (.iload 5, 2) := by decide +kernel
theorem dX6_failureAt_113 : decode cX6_failureAt 113 = .ok (.aload_n 2, 1) := by decide +kernel
theorem dX6_failureAt_114 : decode cX6_failureAt 114 = .ok (.getfield 21, 3) := by decide +kernel
theorem dX6_failureAt_117 : decode cX6_failureAt 117 = .ok (.bipush 41, 2) := by decide +kernel
theorem dX6_failureAt_119 : decode cX6_failureAt 119 = .ok (.iaload, 1) := by decide +kernel
theorem dX6_failureAt_120 : decode cX6_failureAt 120 = .ok (.if_icmp .le 11, 3) := by decide +kernel
theorem dX6_failureAt_123 : decode cX6_failureAt 123 = .ok (.sipush 300, 3) := by decide +kernel
theorem dX6_failureAt_126 : decode cX6_failureAt 126 = .ok (.iload_n 0, 1) := by decide +kernel
theorem dX6_failureAt_127 : decode cX6_failureAt 127 = .ok (.iadd, 1) := by decide +kernel
theorem dX6_failureAt_128 : decode cX6_failureAt 128 = .ok (.goto 4, 3) := by decide +kernel
theorem dX6_failureAt_131 : decode cX6_failureAt 131 = .ok (.iconst (-1), 1) := by decide +kernel
theorem dX6_failureAt_132 : decode cX6_failureAt 132 = .ok (.ireturn, 1) := by decide +kernel
theorem dX6_worthOf_0 : decode cX6_worthOf 0 = .ok (.aload_n 0, 1) := by decide +kernel
theorem dX6_worthOf_1 : decode cX6_worthOf 1 = .ok (.arraylength, 1) := by decide +kernel
theorem dX6_worthOf_2 : decode cX6_worthOf 2 = .ok (.bipush 12, 2) := by decide +kernel
theorem dX6_worthOf_4 : decode cX6_worthOf 4 = .ok (.if_icmp .ge 5, 3) := by decide +kernel
theorem dX6_worthOf_7 : decode cX6_worthOf 7 = .ok (.iconst 0, 1) := by decide +kernel
theorem dX6_worthOf_8 : decode cX6_worthOf 8 = .ok (.ireturn, 1) := by decide +kernel
theorem dX6_worthOf_9 : decode cX6_worthOf 9 = .ok (.iconst 0, 1) := by decide +kernel
theorem dX6_worthOf_10 : decode cX6_worthOf 10 = .ok (.istore 4, 2) := by decide +kernel
theorem dX6_worthOf_12 : decode cX6_worthOf 12 = .ok (.iconst 0, 1) := by decide +kernel
theorem dX6_worthOf_13 : decode cX6_worthOf 13 = .ok (.istore 5, 2) := by decide +kernel
theorem dX6_worthOf_15 : decode cX6_worthOf 15 = .ok (.iload 5, 2) := by decide +kernel
theorem dX6_worthOf_17 : decode cX6_worthOf 17 = .ok (.iconst 4, 1) := by decide +kernel
theorem dX6_worthOf_18 : decode cX6_worthOf 18 = .ok (.if_icmp .ge 76, 3) := by decide +kernel
theorem dX6_worthOf_21 : decode cX6_worthOf 21 = .ok (.aload_n 1, 1) := by decide +kernel
theorem dX6_worthOf_22 : decode cX6_worthOf 22 = .ok (.iload 5, 2) := by decide +kernel
theorem dX6_worthOf_24 : decode cX6_worthOf 24 = .ok (.iload_n 2, 1) := by decide +kernel
theorem dX6_worthOf_25 : decode cX6_worthOf 25 = .ok (.iload_n 3, 1) := by decide +kernel
theorem dX6_worthOf_26 : decode cX6_worthOf 26 = .ok (.invokevirtual 9, 3) := by decide +kernel
theorem dX6_worthOf_29 : decode cX6_worthOf 29 = .ok (.istore 6, 2) := by decide +kernel
theorem dX6_worthOf_31 : decode cX6_worthOf 31 = .ok (.iload 6, 2) := by decide +kernel
theorem dX6_worthOf_33 : decode cX6_worthOf 33 = .ok (.ifCond .le 17, 3) := by decide +kernel
theorem dX6_worthOf_36 : decode cX6_worthOf 36 = .ok (.iload 4, 2) := by decide +kernel
theorem dX6_worthOf_38 : decode cX6_worthOf 38 = .ok (.aload_n 0, 1) := by decide +kernel
theorem dX6_worthOf_39 : decode cX6_worthOf 39 = .ok (.iconst 4, 1) := by decide +kernel
theorem dX6_worthOf_40 : decode cX6_worthOf 40 = .ok (.iload 5, 2) := by decide +kernel
theorem dX6_worthOf_42 : decode cX6_worthOf 42 = .ok (.iadd, 1) := by decide +kernel
theorem dX6_worthOf_43 : decode cX6_worthOf 43 = .ok (.iaload, 1) := by decide +kernel
theorem dX6_worthOf_44 : decode cX6_worthOf 44 = .ok (.iload 6, 2) := by decide +kernel
theorem dX6_worthOf_46 : decode cX6_worthOf 46 = .ok (.imul, 1) := by decide +kernel
theorem dX6_worthOf_47 : decode cX6_worthOf 47 = .ok (.isub, 1) := by decide +kernel
theorem dX6_worthOf_48 : decode cX6_worthOf 48 = .ok (.istore 4, 2) := by decide +kernel
theorem dX6_worthOf_50 : decode cX6_worthOf 50 = .ok (.iload 6, 2) := by decide +kernel
theorem dX6_worthOf_52 : decode cX6_worthOf 52 = .ok (.ifCond .ge 36, 3) := by decide +kernel
theorem dX6_worthOf_55 : decode cX6_worthOf 55 = .ok (.iload 4, 2) := by decide +kernel
theorem dX6_worthOf_57 : decode cX6_worthOf 57 = .ok (.aload_n 0, 1) := by decide +kernel
theorem dX6_worthOf_58 : decode cX6_worthOf 58 = .ok (.iload 5, 2) := by decide +kernel
theorem dX6_worthOf_60 : decode cX6_worthOf 60 = .ok (.iaload, 1) := by decide +kernel
theorem dX6_worthOf_61 : decode cX6_worthOf 61 = .ok (.iload 6, 2) := by decide +kernel
theorem dX6_worthOf_63 : decode cX6_worthOf 63 = .ok (.imul, 1) := by decide +kernel
theorem dX6_worthOf_64 : decode cX6_worthOf 64 = .ok (.aload_n 0, 1) := by decide +kernel
theorem dX6_worthOf_65 : decode cX6_worthOf 65 = .ok (.bipush 8, 2) := by decide +kernel
theorem dX6_worthOf_67 : decode cX6_worthOf 67 = .ok (.iload 5, 2) := by decide +kernel
theorem dX6_worthOf_69 : decode cX6_worthOf 69 = .ok (.iadd, 1) := by decide +kernel
theorem dX6_worthOf_70 : decode cX6_worthOf 70 = .ok (.iaload, 1) := by decide +kernel
theorem dX6_worthOf_71 : decode cX6_worthOf 71 = .ok (.aload_n 1, 1) := by decide +kernel
theorem dX6_worthOf_72 : decode cX6_worthOf 72 = .ok (.getfield 21, 3) := by decide +kernel
theorem dX6_worthOf_75 : decode cX6_worthOf 75 = .ok (.iload 5, 2) := by decide +kernel
theorem dX6_worthOf_77 : decode cX6_worthOf 77 = .ok (.bipush 6, 2) := by decide +kernel
theorem dX6_worthOf_79 : decode cX6_worthOf 79 = .ok (.imul, 1) := by decide +kernel
theorem dX6_worthOf_80 : decode cX6_worthOf 80 = .ok (.iconst 4, 1) := by decide +kernel
theorem dX6_worthOf_81 : decode cX6_worthOf 81 = .ok (.iadd, 1) := by decide +kernel
theorem dX6_worthOf_82 : decode cX6_worthOf 82 = .ok (.iaload, 1) := by decide +kernel
theorem dX6_worthOf_83 : decode cX6_worthOf 83 = .ok (.imul, 1) := by decide +kernel
theorem dX6_worthOf_84 : decode cX6_worthOf 84 = .ok (.iadd, 1) := by decide +kernel
theorem dX6_worthOf_85 : decode cX6_worthOf 85 = .ok (.isub, 1) := by decide +kernel
theorem dX6_worthOf_86 : decode cX6_worthOf 86 = .ok (.istore 4, 2) := by decide +kernel
theorem dX6_worthOf_88 : decode cX6_worthOf 88 = .ok (.iinc 5 1, 3) := by decide +kernel
end
section
theorem dX6_worthOf_91 : decode cX6_worthOf 91 = .ok (.goto (-76), 3) := by decide +kernel
theorem dX6_worthOf_94 : decode cX6_worthOf 94 = .ok (.iconst 0, 1) := by decide +kernel
theorem dX6_worthOf_95 : decode cX6_worthOf 95 = .ok (.iload 4, 2) := by decide +kernel
theorem dX6_worthOf_97 : decode cX6_worthOf 97 = .ok (.invokestatic 25, 3) := by decide +kernel
theorem dX6_worthOf_100 : decode cX6_worthOf 100 = .ok (.ireturn, 1) := by decide +kernel
theorem dX7_init_0 : decode cX7_init 0 = .ok (.aload_n 0, 1) := by decide +kernel
theorem dX7_init_1 : decode cX7_init 1 = .ok (.invokespecial 3, 3) := by decide +kernel
theorem dX7_init_4 : decode cX7_init 4 = .ok (.aload_n 0, 1) := by decide +kernel
theorem dX7_init_5 : decode cX7_init 5 = .ok (.bipush 40, 2) := by decide +kernel
theorem dX7_init_7 : decode cX7_init 7 = .ok (.newarray .int, 2) := by decide +kernel
theorem dX7_init_9 : decode cX7_init 9 = .ok (.putfield 9, 3) := by decide +kernel
theorem dX7_init_12 : decode cX7_init 12 = .ok (.aload_n 0, 1) := by decide +kernel
theorem dX7_init_13 : decode cX7_init 13 = .ok (.iconst 0, 1) := by decide +kernel
theorem dX7_init_14 : decode cX7_init 14 = .ok (.putfield 15, 3) := by decide +kernel
theorem dX7_init_17 : decode cX7_init 17 = .ok (.return_, 1) := by decide +kernel
theorem dX7_copy_0 : decode cX7_copy 0 = .ok (.aload_n 1, 1) := by decide +kernel
theorem dX7_copy_1 : decode cX7_copy 1 = .ok (.getfield 9, 3) := by decide +kernel
theorem dX7_copy_4 : decode cX7_copy 4 = .ok (.iconst 0, 1) := by decide +kernel
theorem dX7_copy_5 : decode cX7_copy 5 = .ok (.aload_n 0, 1) := by decide +kernel
theorem dX7_copy_6 : decode cX7_copy 6 = .ok (.getfield 9, 3) := by decide +kernel
theorem dX7_copy_9 : decode cX7_copy 9 = .ok (.iconst 0, 1) := by decide +kernel
theorem dX7_copy_10 : decode cX7_copy 10 = .ok (.bipush 40, 2) := by decide +kernel
theorem dX7_copy_12 : decode cX7_copy 12 = .ok (.invokestatic 19, 3) := by decide +kernel
theorem dX7_copy_15 : decode cX7_copy 15 = .ok (.aload_n 0, 1) := by decide +kernel
theorem dX7_copy_16 : decode cX7_copy 16 = .ok (.aload_n 1, 1) := by decide +kernel
theorem dX7_copy_17 : decode cX7_copy 17 = .ok (.getfield 15, 3) := by decide +kernel
theorem dX7_copy_20 : decode cX7_copy 20 = .ok (.putfield 15, 3) := by decide +kernel
theorem dX7_copy_23 : decode cX7_copy 23 = .ok (.return_, 1) := by decide +kernel
theorem dX7_add_0 : decode cX7_add 0 = .ok (.aload_n 0, 1) := by decide +kernel
theorem dX7_add_1 : decode cX7_add 1 = .ok (.getfield 15, 3) := by decide +kernel
theorem dX7_add_4 : decode cX7_add 4 = .ok (.bipush 40, 2) := by decide +kernel
theorem dX7_add_6 : decode cX7_add 6 = .ok (.if_icmp .lt 4, 3) := by decide +kernel
theorem dX7_add_9 : decode cX7_add 9 = .ok (.return_, 1) := by decide +kernel
theorem dX7_add_10 : decode cX7_add 10 = .ok (.aload_n 0, 1) := by decide +kernel
theorem dX7_add_11 : decode cX7_add 11 = .ok (.getfield 9, 3) := by decide +kernel
theorem dX7_add_14 : decode cX7_add 14 = .ok (.aload_n 0, 1) := by decide +kernel
theorem dX7_add_15 : decode cX7_add 15 = .ok (.getfield 15, 3) := by decide +kernel
theorem dX7_add_18 : decode cX7_add 18 = .ok (.iload_n 1, 1) := by decide +kernel
theorem dX7_add_19 : decode cX7_add 19 = .ok (.iastore, 1) := by decide +kernel
theorem dX7_add_20 : decode cX7_add 20 = .ok (.aload_n 0, 1) := by decide +kernel
theorem dX7_add_21 : decode cX7_add 21 = .ok (.dup, 1) := by decide +kernel
theorem dX7_add_22 : decode cX7_add 22 = .ok (.getfield 15, 3) := by decide +kernel
theorem dX7_add_25 : decode cX7_add 25 = .ok (.iconst 1, 1) := by decide +kernel
theorem dX7_add_26 : decode cX7_add 26 = .ok (.iadd, 1) := by decide +kernel
theorem dX7_add_27 : decode cX7_add 27 = .ok (.putfield 15, 3) := by decide +kernel
theorem dX7_add_30 : decode cX7_add 30 = .ok (.return_, 1) := by decide +kernel
theorem dX7_value_0 : decode cX7_value 0 = .ok (.iconst 0, 1) := by decide +kernel
theorem dX7_value_1 : decode cX7_value 1 = .ok (.istore 4, 2) := by decide +kernel
theorem dX7_value_3 : decode cX7_value 3 = .ok (.iconst 0, 1) := by decide +kernel
theorem dX7_value_4 : decode cX7_value 4 = .ok (.istore 5, 2) := by decide +kernel
theorem dX7_value_6 : decode cX7_value 6 = .ok (.iload 5, 2) := by decide +kernel
theorem dX7_value_8 : decode cX7_value 8 = .ok (.aload_n 0, 1) := by decide +kernel
theorem dX7_value_9 : decode cX7_value 9 = .ok (.getfield 15, 3) := by decide +kernel
theorem dX7_value_12 : decode cX7_value 12 = .ok (.if_icmp .ge 91, 3) := by decide +kernel
theorem dX7_value_15 : decode cX7_value 15 = .ok (.iload 5, 2) := by decide +kernel
theorem dX7_value_17 : decode cX7_value 17 = .ok (.bipush 40, 2) := by decide +kernel
theorem dX7_value_19 : decode cX7_value 19 = .ok (.if_icmp .ge 84, 3) := by decide +kernel
theorem dX7_value_22 : decode cX7_value 22 = .ok (.aload_n 0, 1) := by decide +kernel
theorem dX7_value_23 : decode cX7_value 23 = .ok (.getfield 9, 3) := by decide +kernel
theorem dX7_value_26 : decode cX7_value 26 = .ok (.iload 5, 2) := by decide +kernel
theorem dX7_value_28 : decode cX7_value 28 = .ok (.iaload, 1) := by decide +kernel
theorem dX7_value_29 : decode cX7_value 29 = .ok (.istore 6, 2) := by decide +kernel
theorem dX7_value_31 : decode cX7_value 31 = .ok (.iload 6, 2) := by decide +kernel
theorem dX7_value_33 : decode cX7_value 33 = .ok (.sipush 1020, 3) := by decide +kernel
theorem dX7_value_36 : decode cX7_value 36 = .ok (.if_icmp .ge 29, 3) := by decide +kernel
theorem dX7_value_39 : decode cX7_value 39 = .ok (.iload 4, 2) := by decide +kernel
theorem dX7_value_41 : decode cX7_value 41 = .ok (.aload_n 3, 1) := by decide +kernel
theorem dX7_value_42 : decode cX7_value 42 = .ok (.arraylength, 1) := by decide +kernel
theorem dX7_value_43 : decode cX7_value 43 = .ok (.if_icmp .lt 5, 3) := by decide +kernel
theorem dX7_value_46 : decode cX7_value 46 = .ok (.iconst 0, 1) := by decide +kernel
theorem dX7_value_47 : decode cX7_value 47 = .ok (.ireturn, 1) := by decide +kernel
theorem dX7_value_48 : decode cX7_value 48 = .ok (.aload_n 3, 1) := by decide +kernel
theorem dX7_value_49 : decode cX7_value 49 = .ok (.iload 4, 2) := by decide +kernel
theorem dX7_value_51 : decode cX7_value 51 = .ok (.iload 6, 2) := by decide +kernel
theorem dX7_value_53 : decode cX7_value 53 = .ok (.iload_n 1, 1) := by decide +kernel
theorem dX7_value_54 : decode cX7_value 54 = .ok (.iload_n 2, 1) := by decide +kernel
theorem dX7_value_55 : decode cX7_value 55 = .ok (.invokestatic 25, 3) := by decide +kernel
theorem dX7_value_58 : decode cX7_value 58 = .ok (.iastore, 1) := by decide +kernel
theorem dX7_value_59 : decode cX7_value 59 = .ok (.iinc 4 1, 3) := by decide +kernel
theorem dX7_value_62 : decode cX7_value 62 = .ok (.goto 35, 3) := by decide +kernel
theorem dX7_value_65 : decode cX7_value 65 = .ok (.iload 4, 2) := by decide +kernel
theorem dX7_value_67 : decode cX7_value 67 = .ok (.iconst 2, 1) := by decide +kernel
theorem dX7_value_68 : decode cX7_value 68 = .ok (.if_icmp .ge 5, 3) := by decide +kernel
theorem dX7_value_71 : decode cX7_value 71 = .ok (.iconst 0, 1) := by decide +kernel
theorem dX7_value_72 : decode cX7_value 72 = .ok (.ireturn, 1) := by decide +kernel
theorem dX7_value_73 : decode cX7_value 73 = .ok (.iinc 4 (-1), 3) := by decide +kernel
theorem dX7_value_76 : decode cX7_value 76 = .ok (.aload_n 3, 1) := by decide +kernel
theorem dX7_value_77 : decode cX7_value 77 = .ok (.iload 4, 2) := by decide +kernel
theorem dX7_value_79 : decode cX7_value 79 = .ok (.iconst 1, 1) := by decide +kernel
theorem dX7_value_80 : decode cX7_value 80 = .ok (.isub, 1) := by decide +kernel
theorem dX7_value_81 : decode cX7_value 81 = .ok (.iload 6, 2) := by decide +kernel
theorem dX7_value_83 : decode cX7_value 83 = .ok (.aload_n 3, 1) := by decide +kernel
theorem dX7_value_84 : decode cX7_value 84 = .ok (.iload 4, 2) := by decide +kernel
theorem dX7_value_86 : decode cX7_value 86 = .ok (.iconst 1, 1) := by decide +kernel
theorem dX7_value_87 : decode cX7_value 87 = .ok (.isub, 1) := by decide +kernel
theorem dX7_value_88 : decode cX7_value 88 = .ok (.iaload, 1) := by decide +kernel
theorem dX7_value_89 : decode cX7_value 89 = .ok (.aload_n 3, 1) := by decide +kernel
theorem dX7_value_90 : decode cX7_value 90 = .ok (.iload 4, 2) := by decide +kernel
theorem dX7_value_92 : decode cX7_value 92 = .ok (.iaload, 1) := by decide +kernel
theorem dX7_value_93 : decode cX7_value 93 = .ok (.invokestatic 29, 3) := by decide +kernel
theorem dX7_value_96 : decode cX7_value 96 = .ok (.iastore, 1) := by decide +kernel
theorem dX7_value_97 : decode cX7_value 97 = .ok (.iinc 5 1, 3) := by decide +kernel
theorem dX7_value_100 : decode cX7_value 100 = .ok (.goto (-94), 3) := by decide +kernel
theorem dX7_value_103 : decode cX7_value 103 = .ok (.iload 4, 2) := by decide +kernel
theorem dX7_value_105 : decode cX7_value 105 = .ok (.ifCond .le 12, 3) := by decide +kernel
theorem dX7_value_108 : decode cX7_value 108 = .ok (.aload_n 3, 1) := by decide +kernel
theorem dX7_value_109 : decode cX7_value 109 = .ok (.iload 4, 2) := by decide +kernel
theorem dX7_value_111 : decode cX7_value 111 = .ok (.iconst 1, 1) := by decide +kernel
theorem dX7_value_112 : decode cX7_value 112 = .ok (.isub, 1) := by decide +kernel
theorem dX7_value_113 : decode cX7_value 113 = .ok (.iaload, 1) := by decide +kernel
theorem dX7_value_114 : decode cX7_value 114 = .ok (.goto 4, 3) := by decide +kernel
theorem dX7_value_117 : decode cX7_value 117 = .ok (.iconst 0, 1) := by decide +kernel
theorem dX7_value_118 : decode cX7_value 118 = .ok (.ireturn, 1) := by decide +kernel
theorem dX7_valueOf_0 : decode cX7_valueOf 0 = .ok (.iload_n 0, 1) := by decide +kernel
theorem dX7_valueOf_1 : decode cX7_valueOf 1 = .ok (.sipush 1000, 3) := by decide +kernel
theorem dX7_valueOf_4 : decode cX7_valueOf 4 = .ok (.if_icmp .ge 5, 3) := by decide +kernel
theorem dX7_valueOf_7 : decode cX7_valueOf 7 = .ok (.iload_n 0, 1) := by decide +kernel
theorem dX7_valueOf_8 : decode cX7_valueOf 8 = .ok (.ireturn, 1) := by decide +kernel
theorem dX7_valueOf_9 : decode cX7_valueOf 9 = .ok (.iload_n 0, 1) := by decide +kernel
theorem dX7_valueOf_10 : decode cX7_valueOf 10 = .ok (.sipush 1010, 3) := by decide +kernel
theorem dX7_valueOf_13 : decode cX7_valueOf 13 = .ok (.if_icmp .ge 17, 3) := by decide +kernel
theorem dX7_valueOf_16 : decode cX7_valueOf 16 = .ok (.iload_n 1, 1) := by decide +kernel
theorem dX7_valueOf_17 : decode cX7_valueOf 17 = .ok (.iconst 2, 1) := by decide +kernel
theorem dX7_valueOf_18 : decode cX7_valueOf 18 = .ok (.iload_n 0, 1) := by decide +kernel
theorem dX7_valueOf_19 : decode cX7_valueOf 19 = .ok (.sipush 1000, 3) := by decide +kernel
theorem dX7_valueOf_22 : decode cX7_valueOf 22 = .ok (.isub, 1) := by decide +kernel
theorem dX7_valueOf_23 : decode cX7_valueOf 23 = .ok (.imul, 1) := by decide +kernel
theorem dX7_valueOf_24 : decode cX7_valueOf 24 = .ok (.ishr, 1) := by decide +kernel
theorem dX7_valueOf_25 : decode cX7_valueOf 25 = .ok (.iconst 3, 1) := by decide +kernel
theorem dX7_valueOf_26 : decode cX7_valueOf 26 = .ok (.iand, 1) := by decide +kernel
theorem dX7_valueOf_27 : decode cX7_valueOf 27 = .ok (.goto 12, 3) := by decide +kernel
theorem dX7_valueOf_30 : decode cX7_valueOf 30 = .ok (.iload_n 2, 1) := by decide +kernel
theorem dX7_valueOf_31 : decode cX7_valueOf 31 = .ok (.iload_n 0, 1) := by decide +kernel
theorem dX7_valueOf_32 : decode cX7_valueOf 32 = .ok (.sipush 1010, 3) := by decide +kernel
theorem dX7_valueOf_35 : decode cX7_valueOf 35 = .ok (.isub, 1) := by decide +kernel
theorem dX7_valueOf_36 : decode cX7_valueOf 36 = .ok (.ishr, 1) := by decide +kernel
theorem dX7_valueOf_37 : decode cX7_valueOf 37 = .ok (.iconst 1, 1) := by decide +kernel
theorem dX7_valueOf_38 : decode cX7_valueOf 38 = .ok (.iand, 1) := by decide +kernel
theorem dX7_valueOf_39 : decode cX7_valueOf 39 = .ok (.ireturn, 1) := by decide +kernel
theorem dX7_joined_0 : decode cX7_joined 0 = .ok (.iload_n 0, 1) := by decide +kernel
theorem dX7_joined_1 : decode cX7_joined 1 = .ok (.sipush 1022, 3) := by decide +kernel
theorem dX7_joined_4 : decode cX7_joined 4 = .ok (.if_icmp .ne 7, 3) := by decide +kernel
theorem dX7_joined_7 : decode cX7_joined 7 = .ok (.iload_n 1, 1) := by decide +kernel
theorem dX7_joined_8 : decode cX7_joined 8 = .ok (.iload_n 2, 1) := by decide +kernel
theorem dX7_joined_9 : decode cX7_joined 9 = .ok (.imul, 1) := by decide +kernel
theorem dX7_joined_10 : decode cX7_joined 10 = .ok (.ireturn, 1) := by decide +kernel
theorem dX7_joined_11 : decode cX7_joined 11 = .ok (.iload_n 0, 1) := by decide +kernel
theorem dX7_joined_12 : decode cX7_joined 12 = .ok (.sipush 1020, 3) := by decide +kernel
theorem dX7_joined_15 : decode cX7_joined 15 = .ok (.if_icmp .ne 9, 3) := by decide +kernel
theorem dX7_joined_18 : decode cX7_joined 18 = .ok (.iload_n 1, 1) := by decide +kernel
theorem dX7_joined_19 : decode cX7_joined 19 = .ok (.iload_n 2, 1) := by decide +kernel
theorem dX7_joined_20 : decode cX7_joined 20 = .ok (.iadd, 1) := by decide +kernel
theorem dX7_joined_21 : decode cX7_joined 21 = .ok (.goto 6, 3) := by decide +kernel
theorem dX7_joined_24 : decode cX7_joined 24 = .ok (.iload_n 1, 1) := by decide +kernel
theorem dX7_joined_25 : decode cX7_joined 25 = .ok (.iload_n 2, 1) := by decide +kernel
theorem dX7_joined_26 : decode cX7_joined 26 = .ok (.isub, 1) := by decide +kernel
theorem dX7_joined_27 : decode cX7_joined 27 = .ok (.ireturn, 1) := by decide +kernel
theorem dX8_init_0 : decode cX8_init 0 = .ok (.aload_n 0, 1) := by decide +kernel
theorem dX8_init_1 : decode cX8_init 1 = .ok (.invokespecial 3, 3) := by decide +kernel
theorem dX8_init_4 : decode cX8_init 4 = .ok (.aload_n 0, 1) := by decide +kernel
theorem dX8_init_5 : decode cX8_init 5 = .ok (.new 9, 3) := by decide +kernel
theorem dX8_init_8 : decode cX8_init 8 = .ok (.dup, 1) := by decide +kernel
theorem dX8_init_9 : decode cX8_init 9 = .ok (.invokespecial 11, 3) := by decide +kernel
theorem dX8_init_12 : decode cX8_init 12 = .ok (.putfield 12, 3) := by decide +kernel
theorem dX8_init_15 : decode cX8_init 15 = .ok (.aload_n 0, 1) := by decide +kernel
theorem dX8_init_16 : decode cX8_init 16 = .ok (.bipush 40, 2) := by decide +kernel
theorem dX8_init_18 : decode cX8_init 18 = .ok (.newarray .int, 2) := by decide +kernel
theorem dX8_init_20 : decode cX8_init 20 = .ok (.putfield 18, 3) := by decide +kernel
theorem dX8_init_23 : decode cX8_init 23 = .ok (.aload_n 0, 1) := by decide +kernel
theorem dX8_init_24 : decode cX8_init 24 = .ok (.iconst 0, 1) := by decide +kernel
theorem dX8_init_25 : decode cX8_init 25 = .ok (.putfield 22, 3) := by decide +kernel
theorem dX8_init_28 : decode cX8_init 28 = .ok (.aload_n 0, 1) := by decide +kernel
theorem dX8_init_29 : decode cX8_init 29 = .ok (.aload_n 1, 1) := by decide +kernel
theorem dX8_init_30 : decode cX8_init 30 = .ok (.putfield 26, 3) := by decide +kernel
theorem dX8_init_33 : decode cX8_init 33 = .ok (.return_, 1) := by decide +kernel
theorem dX8_costOf_0 : decode cX8_costOf 0 = .ok (.aload_n 0, 1) := by decide +kernel
theorem dX8_costOf_1 : decode cX8_costOf 1 = .ok (.getfield 26, 3) := by decide +kernel
theorem dX8_costOf_4 : decode cX8_costOf 4 = .ok (.iload_n 1, 1) := by decide +kernel
theorem dX8_costOf_5 : decode cX8_costOf 5 = .ok (.invokevirtual 30, 3) := by decide +kernel
theorem dX8_costOf_8 : decode cX8_costOf 8 = .ok (.istore_n 3, 1) := by decide +kernel
theorem dX8_costOf_9 : decode cX8_costOf 9 = .ok (.iconst 0, 1) := by decide +kernel
theorem dX8_costOf_10 : decode cX8_costOf 10 = .ok (.istore 4, 2) := by decide +kernel
theorem dX8_costOf_12 : decode cX8_costOf 12 = .ok (.iload 4, 2) := by decide +kernel
theorem dX8_costOf_14 : decode cX8_costOf 14 = .ok (.iconst 4, 1) := by decide +kernel
theorem dX8_costOf_15 : decode cX8_costOf 15 = .ok (.if_icmp .ge 75, 3) := by decide +kernel
theorem dX8_costOf_18 : decode cX8_costOf 18 = .ok (.aload_n 0, 1) := by decide +kernel
theorem dX8_costOf_19 : decode cX8_costOf 19 = .ok (.iload 4, 2) := by decide +kernel
theorem dX8_costOf_21 : decode cX8_costOf 21 = .ok (.iload_n 1, 1) := by decide +kernel
theorem dX8_costOf_22 : decode cX8_costOf 22 = .ok (.iload_n 2, 1) := by decide +kernel
theorem dX8_costOf_23 : decode cX8_costOf 23 = .ok (.invokevirtual 36, 3) := by decide +kernel
theorem dX8_costOf_26 : decode cX8_costOf 26 = .ok (.istore 5, 2) := by decide +kernel
theorem dX8_costOf_28 : decode cX8_costOf 28 = .ok (.iconst 0, 1) := by decide +kernel
theorem dX8_costOf_29 : decode cX8_costOf 29 = .ok (.aload_n 0, 1) := by decide +kernel
theorem dX8_costOf_30 : decode cX8_costOf 30 = .ok (.getfield 26, 3) := by decide +kernel
theorem dX8_costOf_33 : decode cX8_costOf 33 = .ok (.iload 4, 2) := by decide +kernel
theorem dX8_costOf_35 : decode cX8_costOf 35 = .ok (.iload_n 1, 1) := by decide +kernel
theorem dX8_costOf_36 : decode cX8_costOf 36 = .ok (.iload_n 2, 1) := by decide +kernel
theorem dX8_costOf_37 : decode cX8_costOf 37 = .ok (.invokevirtual 40, 3) := by decide +kernel
theorem dX8_costOf_40 : decode cX8_costOf 40 = .ok (.ineg, 1) := by decide +kernel
theorem dX8_costOf_41 : decode cX8_costOf 41 = .ok (.iload 5, 2) := by decide +kernel
theorem dX8_costOf_43 : decode cX8_costOf 43 = .ok (.isub, 1) := by decide +kernel
theorem dX8_costOf_44 : decode cX8_costOf 44 = .ok (.invokestatic 43, 3) := by decide +kernel
theorem dX8_costOf_47 : decode cX8_costOf 47 = .ok (.istore 6, 2) := by decide +kernel
theorem dX8_costOf_49 : decode cX8_costOf 49 = .ok (.iload_n 3, 1) := by decide +kernel
theorem dX8_costOf_50 : decode cX8_costOf 50 = .ok (.iload 5, 2) := by decide +kernel
theorem dX8_costOf_52 : decode cX8_costOf 52 = .ok (.aload_n 0, 1) := by decide +kernel
theorem dX8_costOf_53 : decode cX8_costOf 53 = .ok (.getfield 26, 3) := by decide +kernel
theorem dX8_costOf_56 : decode cX8_costOf 56 = .ok (.getfield 49, 3) := by decide +kernel
theorem dX8_costOf_59 : decode cX8_costOf 59 = .ok (.iload 4, 2) := by decide +kernel
theorem dX8_costOf_61 : decode cX8_costOf 61 = .ok (.bipush 6, 2) := by decide +kernel
theorem dX8_costOf_63 : decode cX8_costOf 63 = .ok (.imul, 1) := by decide +kernel
theorem dX8_costOf_64 : decode cX8_costOf 64 = .ok (.iconst 3, 1) := by decide +kernel
theorem dX8_costOf_65 : decode cX8_costOf 65 = .ok (.iadd, 1) := by decide +kernel
theorem dX8_costOf_66 : decode cX8_costOf 66 = .ok (.iaload, 1) := by decide +kernel
theorem dX8_costOf_67 : decode cX8_costOf 67 = .ok (.imul, 1) := by decide +kernel
theorem dX8_costOf_68 : decode cX8_costOf 68 = .ok (.iload 6, 2) := by decide +kernel
theorem dX8_costOf_70 : decode cX8_costOf 70 = .ok (.aload_n 0, 1) := by decide +kernel
theorem dX8_costOf_71 : decode cX8_costOf 71 = .ok (.getfield 26, 3) := by decide +kernel
theorem dX8_costOf_74 : decode cX8_costOf 74 = .ok (.getfield 49, 3) := by decide +kernel
theorem dX8_costOf_77 : decode cX8_costOf 77 = .ok (.bipush 41, 2) := by decide +kernel
theorem dX8_costOf_79 : decode cX8_costOf 79 = .ok (.iaload, 1) := by decide +kernel
theorem dX8_costOf_80 : decode cX8_costOf 80 = .ok (.imul, 1) := by decide +kernel
theorem dX8_costOf_81 : decode cX8_costOf 81 = .ok (.iadd, 1) := by decide +kernel
theorem dX8_costOf_82 : decode cX8_costOf 82 = .ok (.iadd, 1) := by decide +kernel
theorem dX8_costOf_83 : decode cX8_costOf 83 = .ok (.istore_n 3, 1) := by decide +kernel
theorem dX8_costOf_84 : decode cX8_costOf 84 = .ok (.iinc 4 1, 3) := by decide +kernel
theorem dX8_costOf_87 : decode cX8_costOf 87 = .ok (.goto (-75), 3) := by decide +kernel
theorem dX8_costOf_90 : decode cX8_costOf 90 = .ok (.iload_n 3, 1) := by decide +kernel
theorem dX8_costOf_91 : decode cX8_costOf 91 = .ok (.ireturn, 1) := by decide +kernel
theorem dX8_worstOver_0 : decode cX8_worstOver 0 = .ok (.bipush (-9), 2) := by decide +kernel
theorem dX8_worstOver_2 : decode cX8_worstOver 2 = .ok (.istore_n 3, 1) := by decide +kernel
theorem dX8_worstOver_3 : decode cX8_worstOver 3 = .ok (.iconst 0, 1) := by decide +kernel
theorem dX8_worstOver_4 : decode cX8_worstOver 4 = .ok (.istore 4, 2) := by decide +kernel
theorem dX8_worstOver_6 : decode cX8_worstOver 6 = .ok (.iload 4, 2) := by decide +kernel
theorem dX8_worstOver_8 : decode cX8_worstOver 8 = .ok (.bipush 16, 2) := by decide +kernel
theorem dX8_worstOver_10 : decode cX8_worstOver 10 = .ok (.if_icmp .ge 31, 3) := by decide +kernel
theorem dX8_worstOver_13 : decode cX8_worstOver 13 = .ok (.iload_n 2, 1) := by decide +kernel
theorem dX8_worstOver_14 : decode cX8_worstOver 14 = .ok (.iload 4, 2) := by decide +kernel
theorem dX8_worstOver_16 : decode cX8_worstOver 16 = .ok (.ishr, 1) := by decide +kernel
theorem dX8_worstOver_17 : decode cX8_worstOver 17 = .ok (.iconst 1, 1) := by decide +kernel
theorem dX8_worstOver_18 : decode cX8_worstOver 18 = .ok (.iand, 1) := by decide +kernel
theorem dX8_worstOver_19 : decode cX8_worstOver 19 = .ok (.iconst 1, 1) := by decide +kernel
theorem dX8_worstOver_20 : decode cX8_worstOver 20 = .ok (.if_icmp .ne 15, 3) := by decide +kernel
theorem dX8_worstOver_23 : decode cX8_worstOver 23 = .ok (.iload_n 3, 1) := by decide +kernel
theorem dX8_worstOver_24 : decode cX8_worstOver 24 = .ok (.aload_n 0, 1) := by decide +kernel
theorem dX8_worstOver_25 : decode cX8_worstOver 25 = .ok (.iload_n 1, 1) := by decide +kernel
theorem dX8_worstOver_26 : decode cX8_worstOver 26 = .ok (.iload 4, 2) := by decide +kernel
theorem dX8_worstOver_28 : decode cX8_worstOver 28 = .ok (.invokevirtual 52, 3) := by decide +kernel
theorem dX8_worstOver_31 : decode cX8_worstOver 31 = .ok (.invokestatic 43, 3) := by decide +kernel
theorem dX8_worstOver_34 : decode cX8_worstOver 34 = .ok (.istore_n 3, 1) := by decide +kernel
theorem dX8_worstOver_35 : decode cX8_worstOver 35 = .ok (.iinc 4 1, 3) := by decide +kernel
theorem dX8_worstOver_38 : decode cX8_worstOver 38 = .ok (.goto (-32), 3) := by decide +kernel
theorem dX8_worstOver_41 : decode cX8_worstOver 41 = .ok (.iload_n 3, 1) := by decide +kernel
theorem dX8_worstOver_42 : decode cX8_worstOver 42 = .ok (.ireturn, 1) := by decide +kernel
theorem dX8_mostLeft_0 : decode cX8_mostLeft 0 = .ok (.iconst 0, 1) := by decide +kernel
theorem dX8_mostLeft_1 : decode cX8_mostLeft 1 = .ok (.istore 4, 2) := by decide +kernel
theorem dX8_mostLeft_3 : decode cX8_mostLeft 3 = .ok (.iconst 0, 1) := by decide +kernel
theorem dX8_mostLeft_4 : decode cX8_mostLeft 4 = .ok (.istore 5, 2) := by decide +kernel
theorem dX8_mostLeft_6 : decode cX8_mostLeft 6 = .ok (.iload 5, 2) := by decide +kernel
theorem dX8_mostLeft_8 : decode cX8_mostLeft 8 = .ok (.bipush 16, 2) := by decide +kernel
theorem dX8_mostLeft_10 : decode cX8_mostLeft 10 = .ok (.if_icmp .ge 49, 3) := by decide +kernel
theorem dX8_mostLeft_13 : decode cX8_mostLeft 13 = .ok (.iload_n 3, 1) := by decide +kernel
theorem dX8_mostLeft_14 : decode cX8_mostLeft 14 = .ok (.iload 5, 2) := by decide +kernel
theorem dX8_mostLeft_16 : decode cX8_mostLeft 16 = .ok (.ishr, 1) := by decide +kernel
theorem dX8_mostLeft_17 : decode cX8_mostLeft 17 = .ok (.iconst 1, 1) := by decide +kernel
theorem dX8_mostLeft_18 : decode cX8_mostLeft 18 = .ok (.iand, 1) := by decide +kernel
theorem dX8_mostLeft_19 : decode cX8_mostLeft 19 = .ok (.ifCond .ne 6, 3) := by decide +kernel
theorem dX8_mostLeft_22 : decode cX8_mostLeft 22 = .ok (.goto 31, 3) := by decide +kernel
theorem dX8_mostLeft_25 : decode cX8_mostLeft 25 = .ok (.iload 4, 2) := by decide +kernel
theorem dX8_mostLeft_27 : decode cX8_mostLeft 27 = .ok (.aload_n 0, 1) := by decide +kernel
theorem dX8_mostLeft_28 : decode cX8_mostLeft 28 = .ok (.getfield 26, 3) := by decide +kernel
theorem dX8_mostLeft_31 : decode cX8_mostLeft 31 = .ok (.iload_n 1, 1) := by decide +kernel
theorem dX8_mostLeft_32 : decode cX8_mostLeft 32 = .ok (.iload_n 2, 1) := by decide +kernel
theorem dX8_mostLeft_33 : decode cX8_mostLeft 33 = .ok (.iload 5, 2) := by decide +kernel
theorem dX8_mostLeft_35 : decode cX8_mostLeft 35 = .ok (.invokevirtual 40, 3) := by decide +kernel
theorem dX8_mostLeft_38 : decode cX8_mostLeft 38 = .ok (.ineg, 1) := by decide +kernel
theorem dX8_mostLeft_39 : decode cX8_mostLeft 39 = .ok (.aload_n 0, 1) := by decide +kernel
theorem dX8_mostLeft_40 : decode cX8_mostLeft 40 = .ok (.iload_n 1, 1) := by decide +kernel
theorem dX8_mostLeft_41 : decode cX8_mostLeft 41 = .ok (.iload_n 2, 1) := by decide +kernel
theorem dX8_mostLeft_42 : decode cX8_mostLeft 42 = .ok (.iload 5, 2) := by decide +kernel
theorem dX8_mostLeft_44 : decode cX8_mostLeft 44 = .ok (.invokevirtual 36, 3) := by decide +kernel
theorem dX8_mostLeft_47 : decode cX8_mostLeft 47 = .ok (.isub, 1) := by decide +kernel
theorem dX8_mostLeft_48 : decode cX8_mostLeft 48 = .ok (.invokestatic 43, 3) := by decide +kernel
theorem dX8_mostLeft_51 : decode cX8_mostLeft 51 = .ok (.istore 4, 2) := by decide +kernel
theorem dX8_mostLeft_53 : decode cX8_mostLeft 53 = .ok (.iinc 5 1, 3) := by decide +kernel
theorem dX8_mostLeft_56 : decode cX8_mostLeft 56 = .ok (.goto (-50), 3) := by decide +kernel
theorem dX8_mostLeft_59 : decode cX8_mostLeft 59 = .ok (.iload 4, 2) := by decide +kernel
theorem dX8_mostLeft_61 : decode cX8_mostLeft 61 = .ok (.ireturn, 1) := by decide +kernel
theorem dX8_hadAt_0 : decode cX8_hadAt 0 = .ok (.aload_n 0, 1) := by decide +kernel
theorem dX8_hadAt_1 : decode cX8_hadAt 1 = .ok (.getfield 26, 3) := by decide +kernel
theorem dX8_hadAt_4 : decode cX8_hadAt 4 = .ok (.getfield 55, 3) := by decide +kernel
theorem dX8_hadAt_7 : decode cX8_hadAt 7 = .ok (.iload_n 1, 1) := by decide +kernel
theorem dX8_hadAt_8 : decode cX8_hadAt 8 = .ok (.aaload, 1) := by decide +kernel
theorem dX8_hadAt_9 : decode cX8_hadAt 9 = .ok (.iload_n 2, 1) := by decide +kernel
theorem dX8_hadAt_10 : decode cX8_hadAt 10 = .ok (.iload_n 3, 1) := by decide +kernel
theorem dX8_hadAt_11 : decode cX8_hadAt 11 = .ok (.aload_n 0, 1) := by decide +kernel
theorem dX8_hadAt_12 : decode cX8_hadAt 12 = .ok (.getfield 18, 3) := by decide +kernel
theorem dX8_hadAt_15 : decode cX8_hadAt 15 = .ok (.invokevirtual 59, 3) := by decide +kernel
theorem dX8_hadAt_18 : decode cX8_hadAt 18 = .ok (.istore 4, 2) := by decide +kernel
theorem dX8_hadAt_20 : decode cX8_hadAt 20 = .ok (.iconst 0, 1) := by decide +kernel
theorem dX8_hadAt_21 : decode cX8_hadAt 21 = .ok (.iload 4, 2) := by decide +kernel
theorem dX8_hadAt_23 : decode cX8_hadAt 23 = .ok (.aload_n 0, 1) := by decide +kernel
theorem dX8_hadAt_24 : decode cX8_hadAt 24 = .ok (.getfield 26, 3) := by decide +kernel
theorem dX8_hadAt_27 : decode cX8_hadAt 27 = .ok (.getfield 49, 3) := by decide +kernel
theorem dX8_hadAt_30 : decode cX8_hadAt 30 = .ok (.iload_n 1, 1) := by decide +kernel
theorem dX8_hadAt_31 : decode cX8_hadAt 31 = .ok (.bipush 6, 2) := by decide +kernel
theorem dX8_hadAt_33 : decode cX8_hadAt 33 = .ok (.imul, 1) := by decide +kernel
theorem dX8_hadAt_34 : decode cX8_hadAt 34 = .ok (.iconst 4, 1) := by decide +kernel
theorem dX8_hadAt_35 : decode cX8_hadAt 35 = .ok (.iadd, 1) := by decide +kernel
theorem dX8_hadAt_36 : decode cX8_hadAt 36 = .ok (.iaload, 1) := by decide +kernel
theorem dX8_hadAt_37 : decode cX8_hadAt 37 = .ok (.invokestatic 63, 3) := by decide +kernel
theorem dX8_hadAt_40 : decode cX8_hadAt 40 = .ok (.invokestatic 43, 3) := by decide +kernel
theorem dX8_hadAt_43 : decode cX8_hadAt 43 = .ok (.ireturn, 1) := by decide +kernel
theorem dX8_read_0 : decode cX8_read 0 = .ok (.aload_n 0, 1) := by decide +kernel
theorem dX8_read_1 : decode cX8_read 1 = .ok (.iload_n 2, 1) := by decide +kernel
theorem dX8_read_2 : decode cX8_read 2 = .ok (.putfield 22, 3) := by decide +kernel
theorem dX8_read_5 : decode cX8_read 5 = .ok (.aload_n 0, 1) := by decide +kernel
theorem dX8_read_6 : decode cX8_read 6 = .ok (.getfield 12, 3) := by decide +kernel
theorem dX8_read_9 : decode cX8_read 9 = .ok (.iconst 0, 1) := by decide +kernel
theorem dX8_read_10 : decode cX8_read 10 = .ok (.putfield 66, 3) := by decide +kernel
theorem dX8_read_13 : decode cX8_read 13 = .ok (.aload_n 1, 1) := by decide +kernel
theorem dX8_read_14 : decode cX8_read 14 = .ok (.invokevirtual 69, 3) := by decide +kernel
theorem dX8_read_17 : decode cX8_read 17 = .ok (.aload_n 0, 1) := by decide +kernel
theorem dX8_read_18 : decode cX8_read 18 = .ok (.aload_n 1, 1) := by decide +kernel
theorem dX8_read_19 : decode cX8_read 19 = .ok (.iconst 0, 1) := by decide +kernel
theorem dX8_read_20 : decode cX8_read 20 = .ok (.invokevirtual 74, 3) := by decide +kernel
theorem dX8_read_23 : decode cX8_read 23 = .ok (.aload_n 1, 1) := by decide +kernel
theorem dX8_read_24 : decode cX8_read 24 = .ok (.invokevirtual 78, 3) := by decide +kernel
theorem dX8_read_27 : decode cX8_read 27 = .ok (.return_, 1) := by decide +kernel
theorem dX8_keep_0 : decode cX8_keep 0 = .ok (.aload_n 0, 1) := by decide +kernel
theorem dX8_keep_1 : decode cX8_keep 1 = .ok (.getfield 26, 3) := by decide +kernel
theorem dX8_keep_4 : decode cX8_keep 4 = .ok (.getfield 55, 3) := by decide +kernel
theorem dX8_keep_7 : decode cX8_keep 7 = .ok (.iload_n 1, 1) := by decide +kernel
theorem dX8_keep_8 : decode cX8_keep 8 = .ok (.aaload, 1) := by decide +kernel
theorem dX8_keep_9 : decode cX8_keep 9 = .ok (.aload_n 0, 1) := by decide +kernel
theorem dX8_keep_10 : decode cX8_keep 10 = .ok (.getfield 12, 3) := by decide +kernel
theorem dX8_keep_13 : decode cX8_keep 13 = .ok (.invokevirtual 81, 3) := by decide +kernel
theorem dX8_keep_16 : decode cX8_keep 16 = .ok (.return_, 1) := by decide +kernel
theorem dX8_readSum_0 : decode cX8_readSum 0 = .ok (.aload_n 0, 1) := by decide +kernel
theorem dX8_readSum_1 : decode cX8_readSum 1 = .ok (.aload_n 1, 1) := by decide +kernel
theorem dX8_readSum_2 : decode cX8_readSum 2 = .ok (.iload_n 2, 1) := by decide +kernel
theorem dX8_readSum_3 : decode cX8_readSum 3 = .ok (.invokevirtual 85, 3) := by decide +kernel
theorem dX8_readSum_6 : decode cX8_readSum 6 = .ok (.iconst 0, 1) := by decide +kernel
theorem dX8_readSum_7 : decode cX8_readSum 7 = .ok (.istore_n 3, 1) := by decide +kernel
theorem dX8_readSum_8 : decode cX8_readSum 8 = .ok (.iload_n 3, 1) := by decide +kernel
theorem dX8_readSum_9 : decode cX8_readSum 9 = .ok (.bipush 40, 2) := by decide +kernel
theorem dX8_readSum_11 : decode cX8_readSum 11 = .ok (.if_icmp .ge 65, 3) := by decide +kernel
theorem dX8_readSum_14 : decode cX8_readSum 14 = .ok (.aload_n 1, 1) := by decide +kernel
theorem dX8_readSum_15 : decode cX8_readSum 15 = .ok (.invokevirtual 88, 3) := by decide +kernel
theorem dX8_readSum_18 : decode cX8_readSum 18 = .ok (.istore 4, 2) := by decide +kernel
theorem dX8_readSum_20 : decode cX8_readSum 20 = .ok (.aload_n 1, 1) := by decide +kernel
theorem dX8_readSum_21 : decode cX8_readSum 21 = .ok (.bipush 43, 2) := by decide +kernel
theorem dX8_readSum_23 : decode cX8_readSum 23 = .ok (.invokevirtual 92, 3) := by decide +kernel
theorem dX8_readSum_26 : decode cX8_readSum 26 = .ok (.ifCond .ne 15, 3) := by decide +kernel
theorem dX8_readSum_29 : decode cX8_readSum 29 = .ok (.aload_n 1, 1) := by decide +kernel
theorem dX8_readSum_30 : decode cX8_readSum 30 = .ok (.bipush 45, 2) := by decide +kernel
theorem dX8_readSum_32 : decode cX8_readSum 32 = .ok (.invokevirtual 92, 3) := by decide +kernel
theorem dX8_readSum_35 : decode cX8_readSum 35 = .ok (.ifCond .ne 6, 3) := by decide +kernel
theorem dX8_readSum_38 : decode cX8_readSum 38 = .ok (.goto 38, 3) := by decide +kernel
theorem dX8_readSum_41 : decode cX8_readSum 41 = .ok (.aload_n 0, 1) := by decide +kernel
theorem dX8_readSum_42 : decode cX8_readSum 42 = .ok (.aload_n 1, 1) := by decide +kernel
theorem dX8_readSum_43 : decode cX8_readSum 43 = .ok (.iload_n 2, 1) := by decide +kernel
theorem dX8_readSum_44 : decode cX8_readSum 44 = .ok (.invokevirtual 85, 3) := by decide +kernel
theorem dX8_readSum_47 : decode cX8_readSum 47 = .ok (.aload_n 0, 1) := by decide +kernel
theorem dX8_readSum_48 : decode cX8_readSum 48 = .ok (.getfield 12, 3) := by decide +kernel
theorem dX8_readSum_51 : decode cX8_readSum 51 = .ok (.iload 4, 2) := by decide +kernel
theorem dX8_readSum_53 : decode cX8_readSum 53 = .ok (.bipush 43, 2) := by decide +kernel
theorem dX8_readSum_55 : decode cX8_readSum 55 = .ok (.if_icmp .ne 9, 3) := by decide +kernel
theorem dX8_readSum_58 : decode cX8_readSum 58 = .ok (.sipush 1020, 3) := by decide +kernel
theorem dX8_readSum_61 : decode cX8_readSum 61 = .ok (.goto 6, 3) := by decide +kernel
theorem dX8_readSum_64 : decode cX8_readSum 64 = .ok (.sipush 1021, 3) := by decide +kernel
theorem dX8_readSum_67 : decode cX8_readSum 67 = .ok (.invokevirtual 96, 3) := by decide +kernel
theorem dX8_readSum_70 : decode cX8_readSum 70 = .ok (.iinc 3 1, 3) := by decide +kernel
theorem dX8_readSum_73 : decode cX8_readSum 73 = .ok (.goto (-65), 3) := by decide +kernel
theorem dX8_readSum_76 : decode cX8_readSum 76 = .ok (.return_, 1) := by decide +kernel
theorem dX8_readProduct_0 : decode cX8_readProduct 0 = .ok (.aload_n 0, 1) := by decide +kernel
theorem dX8_readProduct_1 : decode cX8_readProduct 1 = .ok (.aload_n 1, 1) := by decide +kernel
theorem dX8_readProduct_2 : decode cX8_readProduct 2 = .ok (.iload_n 2, 1) := by decide +kernel
theorem dX8_readProduct_3 : decode cX8_readProduct 3 = .ok (.invokevirtual 100, 3) := by decide +kernel
theorem dX8_readProduct_6 : decode cX8_readProduct 6 = .ok (.iconst 0, 1) := by decide +kernel
theorem dX8_readProduct_7 : decode cX8_readProduct 7 = .ok (.istore_n 3, 1) := by decide +kernel
theorem dX8_readProduct_8 : decode cX8_readProduct 8 = .ok (.iload_n 3, 1) := by decide +kernel
theorem dX8_readProduct_9 : decode cX8_readProduct 9 = .ok (.bipush 40, 2) := by decide +kernel
theorem dX8_readProduct_11 : decode cX8_readProduct 11 = .ok (.if_icmp .ge 34, 3) := by decide +kernel
theorem dX8_readProduct_14 : decode cX8_readProduct 14 = .ok (.aload_n 1, 1) := by decide +kernel
theorem dX8_readProduct_15 : decode cX8_readProduct 15 = .ok (.bipush 42, 2) := by decide +kernel
theorem dX8_readProduct_17 : decode cX8_readProduct 17 = .ok (.invokevirtual 92, 3) := by decide +kernel
theorem dX8_readProduct_20 : decode cX8_readProduct 20 = .ok (.ifCond .eq 25, 3) := by decide +kernel
theorem dX8_readProduct_23 : decode cX8_readProduct 23 = .ok (.aload_n 0, 1) := by decide +kernel
theorem dX8_readProduct_24 : decode cX8_readProduct 24 = .ok (.aload_n 1, 1) := by decide +kernel
theorem dX8_readProduct_25 : decode cX8_readProduct 25 = .ok (.iload_n 2, 1) := by decide +kernel
theorem dX8_readProduct_26 : decode cX8_readProduct 26 = .ok (.invokevirtual 100, 3) := by decide +kernel
theorem dX8_readProduct_29 : decode cX8_readProduct 29 = .ok (.aload_n 0, 1) := by decide +kernel
theorem dX8_readProduct_30 : decode cX8_readProduct 30 = .ok (.getfield 12, 3) := by decide +kernel
theorem dX8_readProduct_33 : decode cX8_readProduct 33 = .ok (.sipush 1022, 3) := by decide +kernel
theorem dX8_readProduct_36 : decode cX8_readProduct 36 = .ok (.invokevirtual 96, 3) := by decide +kernel
theorem dX8_readProduct_39 : decode cX8_readProduct 39 = .ok (.iinc 3 1, 3) := by decide +kernel
theorem dX8_readProduct_42 : decode cX8_readProduct 42 = .ok (.goto (-34), 3) := by decide +kernel
theorem dX8_readProduct_45 : decode cX8_readProduct 45 = .ok (.return_, 1) := by decide +kernel
theorem dX8_readUnit_0 : decode cX8_readUnit 0 = .ok (.aload_n 1, 1) := by decide +kernel
theorem dX8_readUnit_1 : decode cX8_readUnit 1 = .ok (.getfield 103, 3) := by decide +kernel
theorem dX8_readUnit_4 : decode cX8_readUnit 4 = .ok (.istore_n 3, 1) := by decide +kernel
theorem dX8_readUnit_5 : decode cX8_readUnit 5 = .ok (.aload_n 1, 1) := by decide +kernel
theorem dX8_readUnit_6 : decode cX8_readUnit 6 = .ok (.invokevirtual 106, 3) := by decide +kernel
theorem dX8_readUnit_9 : decode cX8_readUnit 9 = .ok (.ifCond .eq 11, 3) := by decide +kernel
theorem dX8_readUnit_12 : decode cX8_readUnit 12 = .ok (.aload_n 0, 1) := by decide +kernel
theorem dX8_readUnit_13 : decode cX8_readUnit 13 = .ok (.aload_n 1, 1) := by decide +kernel
theorem dX8_readUnit_14 : decode cX8_readUnit 14 = .ok (.invokevirtual 110, 3) := by decide +kernel
theorem dX8_readUnit_17 : decode cX8_readUnit 17 = .ok (.goto 108, 3) := by decide +kernel
theorem dX8_readUnit_20 : decode cX8_readUnit 20 = .ok (.aload_n 1, 1) := by decide +kernel
theorem dX8_readUnit_21 : decode cX8_readUnit 21 = .ok (.bipush 120, 2) := by decide +kernel
theorem dX8_readUnit_23 : decode cX8_readUnit 23 = .ok (.invokevirtual 92, 3) := by decide +kernel
theorem dX8_readUnit_26 : decode cX8_readUnit 26 = .ok (.ifCond .eq 35, 3) := by decide +kernel
theorem dX8_readUnit_29 : decode cX8_readUnit 29 = .ok (.aload_n 1, 1) := by decide +kernel
theorem dX8_readUnit_30 : decode cX8_readUnit 30 = .ok (.invokevirtual 114, 3) := by decide +kernel
theorem dX8_readUnit_33 : decode cX8_readUnit 33 = .ok (.istore 4, 2) := by decide +kernel
theorem dX8_readUnit_35 : decode cX8_readUnit 35 = .ok (.aload_n 0, 1) := by decide +kernel
theorem dX8_readUnit_36 : decode cX8_readUnit 36 = .ok (.getfield 12, 3) := by decide +kernel
theorem dX8_readUnit_39 : decode cX8_readUnit 39 = .ok (.iload 4, 2) := by decide +kernel
theorem dX8_readUnit_41 : decode cX8_readUnit 41 = .ok (.iconst 4, 1) := by decide +kernel
theorem dX8_readUnit_42 : decode cX8_readUnit 42 = .ok (.if_icmp .ge 12, 3) := by decide +kernel
theorem dX8_readUnit_45 : decode cX8_readUnit 45 = .ok (.sipush 1000, 3) := by decide +kernel
theorem dX8_readUnit_48 : decode cX8_readUnit 48 = .ok (.iload 4, 2) := by decide +kernel
theorem dX8_readUnit_50 : decode cX8_readUnit 50 = .ok (.iadd, 1) := by decide +kernel
theorem dX8_readUnit_51 : decode cX8_readUnit 51 = .ok (.goto 4, 3) := by decide +kernel
theorem dX8_readUnit_54 : decode cX8_readUnit 54 = .ok (.iconst 0, 1) := by decide +kernel
theorem dX8_readUnit_55 : decode cX8_readUnit 55 = .ok (.invokevirtual 96, 3) := by decide +kernel
theorem dX8_readUnit_58 : decode cX8_readUnit 58 = .ok (.goto 67, 3) := by decide +kernel
theorem dX8_readUnit_61 : decode cX8_readUnit 61 = .ok (.aload_n 1, 1) := by decide +kernel
theorem dX8_readUnit_62 : decode cX8_readUnit 62 = .ok (.bipush 115, 2) := by decide +kernel
theorem dX8_readUnit_64 : decode cX8_readUnit 64 = .ok (.invokevirtual 92, 3) := by decide +kernel
theorem dX8_readUnit_67 : decode cX8_readUnit 67 = .ok (.ifCond .eq 11, 3) := by decide +kernel
theorem dX8_readUnit_70 : decode cX8_readUnit 70 = .ok (.aload_n 0, 1) := by decide +kernel
theorem dX8_readUnit_71 : decode cX8_readUnit 71 = .ok (.aload_n 1, 1) := by decide +kernel
theorem dX8_readUnit_72 : decode cX8_readUnit 72 = .ok (.invokevirtual 117, 3) := by decide +kernel
theorem dX8_readUnit_75 : decode cX8_readUnit 75 = .ok (.goto 50, 3) := by decide +kernel
theorem dX8_readUnit_78 : decode cX8_readUnit 78 = .ok (.aload_n 1, 1) := by decide +kernel
theorem dX8_readUnit_79 : decode cX8_readUnit 79 = .ok (.bipush 40, 2) := by decide +kernel
theorem dX8_readUnit_81 : decode cX8_readUnit 81 = .ok (.invokevirtual 92, 3) := by decide +kernel
theorem dX8_readUnit_84 : decode cX8_readUnit 84 = .ok (.ifCond .eq 36, 3) := by decide +kernel
theorem dX8_readUnit_87 : decode cX8_readUnit 87 = .ok (.iload_n 2, 1) := by decide +kernel
theorem dX8_readUnit_88 : decode cX8_readUnit 88 = .ok (.iconst 4, 1) := by decide +kernel
theorem dX8_readUnit_89 : decode cX8_readUnit 89 = .ok (.if_icmp .ge 31, 3) := by decide +kernel
theorem dX8_readUnit_92 : decode cX8_readUnit 92 = .ok (.aload_n 0, 1) := by decide +kernel
theorem dX8_readUnit_93 : decode cX8_readUnit 93 = .ok (.aload_n 1, 1) := by decide +kernel
theorem dX8_readUnit_94 : decode cX8_readUnit 94 = .ok (.iload_n 2, 1) := by decide +kernel
theorem dX8_readUnit_95 : decode cX8_readUnit 95 = .ok (.iconst 1, 1) := by decide +kernel
theorem dX8_readUnit_96 : decode cX8_readUnit 96 = .ok (.iadd, 1) := by decide +kernel
theorem dX8_readUnit_97 : decode cX8_readUnit 97 = .ok (.invokevirtual 74, 3) := by decide +kernel
theorem dX8_readUnit_100 : decode cX8_readUnit 100 = .ok (.aload_n 1, 1) := by decide +kernel
theorem dX8_readUnit_101 : decode cX8_readUnit 101 = .ok (.bipush 41, 2) := by decide +kernel
theorem dX8_readUnit_103 : decode cX8_readUnit 103 = .ok (.invokevirtual 92, 3) := by decide +kernel
theorem dX8_readUnit_106 : decode cX8_readUnit 106 = .ok (.ifCond .ne 19, 3) := by decide +kernel
theorem dX8_readUnit_109 : decode cX8_readUnit 109 = .ok (.aload_n 1, 1) := by decide +kernel
theorem dX8_readUnit_110 : decode cX8_readUnit 110 = .ok (.aload_n 1, 1) := by decide +kernel
theorem dX8_readUnit_111 : decode cX8_readUnit 111 = .ok (.getfield 103, 3) := by decide +kernel
theorem dX8_readUnit_114 : decode cX8_readUnit 114 = .ok (.invokevirtual 120, 3) := by decide +kernel
theorem dX8_readUnit_117 : decode cX8_readUnit 117 = .ok (.goto 8, 3) := by decide +kernel
theorem dX8_readUnit_120 : decode cX8_readUnit 120 = .ok (.aload_n 1, 1) := by decide +kernel
theorem dX8_readUnit_121 : decode cX8_readUnit 121 = .ok (.iload_n 3, 1) := by decide +kernel
theorem dX8_readUnit_122 : decode cX8_readUnit 122 = .ok (.invokevirtual 120, 3) := by decide +kernel
theorem dX8_readUnit_125 : decode cX8_readUnit 125 = .ok (.return_, 1) := by decide +kernel
theorem dX8_readSeen_0 : decode cX8_readSeen 0 = .ok (.aload_n 1, 1) := by decide +kernel
theorem dX8_readSeen_1 : decode cX8_readSeen 1 = .ok (.getfield 103, 3) := by decide +kernel
theorem dX8_readSeen_4 : decode cX8_readSeen 4 = .ok (.istore_n 2, 1) := by decide +kernel
theorem dX8_readSeen_5 : decode cX8_readSeen 5 = .ok (.aload_n 1, 1) := by decide +kernel
theorem dX8_readSeen_6 : decode cX8_readSeen 6 = .ok (.invokevirtual 114, 3) := by decide +kernel
theorem dX8_readSeen_9 : decode cX8_readSeen 9 = .ok (.istore_n 3, 1) := by decide +kernel
theorem dX8_readSeen_10 : decode cX8_readSeen 10 = .ok (.iload_n 3, 1) := by decide +kernel
theorem dX8_readSeen_11 : decode cX8_readSeen 11 = .ok (.iconst 4, 1) := by decide +kernel
theorem dX8_readSeen_12 : decode cX8_readSeen 12 = .ok (.if_icmp .ge 14, 3) := by decide +kernel
theorem dX8_readSeen_15 : decode cX8_readSeen 15 = .ok (.aload_n 0, 1) := by decide +kernel
theorem dX8_readSeen_16 : decode cX8_readSeen 16 = .ok (.getfield 22, 3) := by decide +kernel
theorem dX8_readSeen_19 : decode cX8_readSeen 19 = .ok (.iload_n 3, 1) := by decide +kernel
theorem dX8_readSeen_20 : decode cX8_readSeen 20 = .ok (.ishr, 1) := by decide +kernel
theorem dX8_readSeen_21 : decode cX8_readSeen 21 = .ok (.iconst 1, 1) := by decide +kernel
theorem dX8_readSeen_22 : decode cX8_readSeen 22 = .ok (.iand, 1) := by decide +kernel
theorem dX8_readSeen_23 : decode cX8_readSeen 23 = .ok (.ifCond .ne 8, 3) := by decide +kernel
theorem dX8_readSeen_26 : decode cX8_readSeen 26 = .ok (.aload_n 1, 1) := by decide +kernel
theorem dX8_readSeen_27 : decode cX8_readSeen 27 = .ok (.iload_n 2, 1) := by decide +kernel
theorem dX8_readSeen_28 : decode cX8_readSeen 28 = .ok (.invokevirtual 120, 3) := by decide +kernel
theorem dX8_readSeen_31 : decode cX8_readSeen 31 = .ok (.aload_n 0, 1) := by decide +kernel
theorem dX8_readSeen_32 : decode cX8_readSeen 32 = .ok (.getfield 12, 3) := by decide +kernel
theorem dX8_readSeen_35 : decode cX8_readSeen 35 = .ok (.sipush 1010, 3) := by decide +kernel
theorem dX8_readSeen_38 : decode cX8_readSeen 38 = .ok (.iload_n 3, 1) := by decide +kernel
theorem dX8_readSeen_39 : decode cX8_readSeen 39 = .ok (.iadd, 1) := by decide +kernel
theorem dX8_readSeen_40 : decode cX8_readSeen 40 = .ok (.invokevirtual 96, 3) := by decide +kernel
theorem dX8_readSeen_43 : decode cX8_readSeen 43 = .ok (.return_, 1) := by decide +kernel
theorem dX8_readNumber_0 : decode cX8_readNumber 0 = .ok (.iconst 0, 1) := by decide +kernel
theorem dX8_readNumber_1 : decode cX8_readNumber 1 = .ok (.istore_n 2, 1) := by decide +kernel
theorem dX8_readNumber_2 : decode cX8_readNumber 2 = .ok (.iconst 0, 1) := by decide +kernel
theorem dX8_readNumber_3 : decode cX8_readNumber 3 = .ok (.istore_n 3, 1) := by decide +kernel
theorem dX8_readNumber_4 : decode cX8_readNumber 4 = .ok (.iload_n 3, 1) := by decide +kernel
theorem dX8_readNumber_5 : decode cX8_readNumber 5 = .ok (.iconst 3, 1) := by decide +kernel
theorem dX8_readNumber_6 : decode cX8_readNumber 6 = .ok (.if_icmp .ge 26, 3) := by decide +kernel
theorem dX8_readNumber_9 : decode cX8_readNumber 9 = .ok (.aload_n 1, 1) := by decide +kernel
theorem dX8_readNumber_10 : decode cX8_readNumber 10 = .ok (.invokevirtual 106, 3) := by decide +kernel
theorem dX8_readNumber_13 : decode cX8_readNumber 13 = .ok (.ifCond .eq 19, 3) := by decide +kernel
theorem dX8_readNumber_16 : decode cX8_readNumber 16 = .ok (.iload_n 2, 1) := by decide +kernel
theorem dX8_readNumber_17 : decode cX8_readNumber 17 = .ok (.bipush 10, 2) := by decide +kernel
theorem dX8_readNumber_19 : decode cX8_readNumber 19 = .ok (.imul, 1) := by decide +kernel
theorem dX8_readNumber_20 : decode cX8_readNumber 20 = .ok (.aload_n 1, 1) := by decide +kernel
theorem dX8_readNumber_21 : decode cX8_readNumber 21 = .ok (.invokevirtual 114, 3) := by decide +kernel
theorem dX8_readNumber_24 : decode cX8_readNumber 24 = .ok (.iadd, 1) := by decide +kernel
theorem dX8_readNumber_25 : decode cX8_readNumber 25 = .ok (.istore_n 2, 1) := by decide +kernel
theorem dX8_readNumber_26 : decode cX8_readNumber 26 = .ok (.iinc 3 1, 3) := by decide +kernel
theorem dX8_readNumber_29 : decode cX8_readNumber 29 = .ok (.goto (-25), 3) := by decide +kernel
theorem dX8_readNumber_32 : decode cX8_readNumber 32 = .ok (.aload_n 0, 1) := by decide +kernel
theorem dX8_readNumber_33 : decode cX8_readNumber 33 = .ok (.getfield 12, 3) := by decide +kernel
theorem dX8_readNumber_36 : decode cX8_readNumber 36 = .ok (.iload_n 2, 1) := by decide +kernel
theorem dX8_readNumber_37 : decode cX8_readNumber 37 = .ok (.invokevirtual 96, 3) := by decide +kernel
theorem dX8_readNumber_40 : decode cX8_readNumber 40 = .ok (.return_, 1) := by decide +kernel
theorem dX9_init_0 : decode cX9_init 0 = .ok (.aload_n 0, 1) := by decide +kernel
theorem dX9_init_1 : decode cX9_init 1 = .ok (.invokespecial 3, 3) := by decide +kernel
theorem dX9_init_4 : decode cX9_init 4 = .ok (.aload_n 0, 1) := by decide +kernel
theorem dX9_init_5 : decode cX9_init 5 = .ok (.bipush 40, 2) := by decide +kernel
theorem dX9_init_7 : decode cX9_init 7 = .ok (.newarray .int, 2) := by decide +kernel
theorem dX9_init_9 : decode cX9_init 9 = .ok (.putfield 9, 3) := by decide +kernel
theorem dX9_init_12 : decode cX9_init 12 = .ok (.aload_n 0, 1) := by decide +kernel
theorem dX9_init_13 : decode cX9_init 13 = .ok (.iconst 0, 1) := by decide +kernel
theorem dX9_init_14 : decode cX9_init 14 = .ok (.putfield 15, 3) := by decide +kernel
theorem dX9_init_17 : decode cX9_init 17 = .ok (.aload_n 0, 1) := by decide +kernel
theorem dX9_init_18 : decode cX9_init 18 = .ok (.iconst 0, 1) := by decide +kernel
theorem dX9_init_19 : decode cX9_init 19 = .ok (.putfield 19, 3) := by decide +kernel
theorem dX9_init_22 : decode cX9_init 22 = .ok (.aload_n 0, 1) := by decide +kernel
theorem dX9_init_23 : decode cX9_init 23 = .ok (.iconst (-1), 1) := by decide +kernel
theorem dX9_init_24 : decode cX9_init 24 = .ok (.putfield 22, 3) := by decide +kernel
theorem dX9_init_27 : decode cX9_init 27 = .ok (.return_, 1) := by decide +kernel
theorem dX9_append_0 : decode cX9_append 0 = .ok (.iconst 0, 1) := by decide +kernel
theorem dX9_append_1 : decode cX9_append 1 = .ok (.istore 4, 2) := by decide +kernel
theorem dX9_append_3 : decode cX9_append 3 = .ok (.iload 4, 2) := by decide +kernel
theorem dX9_append_5 : decode cX9_append 5 = .ok (.iload_n 1, 1) := by decide +kernel
theorem dX9_append_6 : decode cX9_append 6 = .ok (.if_icmp .ge 49, 3) := by decide +kernel
theorem dX9_append_9 : decode cX9_append 9 = .ok (.aload_n 0, 1) := by decide +kernel
theorem dX9_append_10 : decode cX9_append 10 = .ok (.getfield 15, 3) := by decide +kernel
theorem dX9_append_13 : decode cX9_append 13 = .ok (.bipush 40, 2) := by decide +kernel
theorem dX9_append_15 : decode cX9_append 15 = .ok (.if_icmp .ge 40, 3) := by decide +kernel
theorem dX9_append_18 : decode cX9_append 18 = .ok (.aload_n 0, 1) := by decide +kernel
theorem dX9_append_19 : decode cX9_append 19 = .ok (.getfield 9, 3) := by decide +kernel
theorem dX9_append_22 : decode cX9_append 22 = .ok (.aload_n 0, 1) := by decide +kernel
theorem dX9_append_23 : decode cX9_append 23 = .ok (.getfield 15, 3) := by decide +kernel
theorem dX9_append_26 : decode cX9_append 26 = .ok (.lload_n 2, 1) := by decide +kernel
theorem dX9_append_27 : decode cX9_append 27 = .ok (.bipush 8, 2) := by decide +kernel
theorem dX9_append_29 : decode cX9_append 29 = .ok (.iload 4, 2) := by decide +kernel
theorem dX9_append_31 : decode cX9_append 31 = .ok (.imul, 1) := by decide +kernel
theorem dX9_append_32 : decode cX9_append 32 = .ok (.lushr, 1) := by decide +kernel
theorem dX9_append_33 : decode cX9_append 33 = .ok (.ldc2_w 25, 3) := by decide +kernel
theorem dX9_append_36 : decode cX9_append 36 = .ok (.land, 1) := by decide +kernel
theorem dX9_append_37 : decode cX9_append 37 = .ok (.l2i, 1) := by decide +kernel
theorem dX9_append_38 : decode cX9_append 38 = .ok (.iastore, 1) := by decide +kernel
theorem dX9_append_39 : decode cX9_append 39 = .ok (.aload_n 0, 1) := by decide +kernel
theorem dX9_append_40 : decode cX9_append 40 = .ok (.dup, 1) := by decide +kernel
theorem dX9_append_41 : decode cX9_append 41 = .ok (.getfield 15, 3) := by decide +kernel
theorem dX9_append_44 : decode cX9_append 44 = .ok (.iconst 1, 1) := by decide +kernel
theorem dX9_append_45 : decode cX9_append 45 = .ok (.iadd, 1) := by decide +kernel
theorem dX9_append_46 : decode cX9_append 46 = .ok (.putfield 15, 3) := by decide +kernel
theorem dX9_append_49 : decode cX9_append 49 = .ok (.iinc 4 1, 3) := by decide +kernel
theorem dX9_append_52 : decode cX9_append 52 = .ok (.goto (-49), 3) := by decide +kernel
theorem dX9_append_55 : decode cX9_append 55 = .ok (.return_, 1) := by decide +kernel
theorem dX9_begin_0 : decode cX9_begin 0 = .ok (.aload_n 0, 1) := by decide +kernel
theorem dX9_begin_1 : decode cX9_begin 1 = .ok (.iconst 0, 1) := by decide +kernel
theorem dX9_begin_2 : decode cX9_begin 2 = .ok (.putfield 19, 3) := by decide +kernel
theorem dX9_begin_5 : decode cX9_begin 5 = .ok (.aload_n 0, 1) := by decide +kernel
theorem dX9_begin_6 : decode cX9_begin 6 = .ok (.iconst (-1), 1) := by decide +kernel
theorem dX9_begin_7 : decode cX9_begin 7 = .ok (.putfield 22, 3) := by decide +kernel
theorem dX9_begin_10 : decode cX9_begin 10 = .ok (.return_, 1) := by decide +kernel
theorem dX9_peek_0 : decode cX9_peek 0 = .ok (.aload_n 0, 1) := by decide +kernel
theorem dX9_peek_1 : decode cX9_peek 1 = .ok (.getfield 22, 3) := by decide +kernel
theorem dX9_peek_4 : decode cX9_peek 4 = .ok (.ifCond .ge 42, 3) := by decide +kernel
theorem dX9_peek_7 : decode cX9_peek 7 = .ok (.aload_n 0, 1) := by decide +kernel
theorem dX9_peek_8 : decode cX9_peek 8 = .ok (.getfield 19, 3) := by decide +kernel
theorem dX9_peek_11 : decode cX9_peek 11 = .ok (.ifCond .lt 35, 3) := by decide +kernel
theorem dX9_peek_14 : decode cX9_peek 14 = .ok (.aload_n 0, 1) := by decide +kernel
theorem dX9_peek_15 : decode cX9_peek 15 = .ok (.getfield 19, 3) := by decide +kernel
theorem dX9_peek_18 : decode cX9_peek 18 = .ok (.aload_n 0, 1) := by decide +kernel
theorem dX9_peek_19 : decode cX9_peek 19 = .ok (.getfield 15, 3) := by decide +kernel
theorem dX9_peek_22 : decode cX9_peek 22 = .ok (.if_icmp .ge 24, 3) := by decide +kernel
theorem dX9_peek_25 : decode cX9_peek 25 = .ok (.aload_n 0, 1) := by decide +kernel
theorem dX9_peek_26 : decode cX9_peek 26 = .ok (.getfield 19, 3) := by decide +kernel
theorem dX9_peek_29 : decode cX9_peek 29 = .ok (.bipush 40, 2) := by decide +kernel
theorem dX9_peek_31 : decode cX9_peek 31 = .ok (.if_icmp .ge 15, 3) := by decide +kernel
theorem dX9_peek_34 : decode cX9_peek 34 = .ok (.aload_n 0, 1) := by decide +kernel
theorem dX9_peek_35 : decode cX9_peek 35 = .ok (.getfield 9, 3) := by decide +kernel
theorem dX9_peek_38 : decode cX9_peek 38 = .ok (.aload_n 0, 1) := by decide +kernel
theorem dX9_peek_39 : decode cX9_peek 39 = .ok (.getfield 19, 3) := by decide +kernel
theorem dX9_peek_42 : decode cX9_peek 42 = .ok (.iaload, 1) := by decide +kernel
theorem dX9_peek_43 : decode cX9_peek 43 = .ok (.goto 4, 3) := by decide +kernel
theorem dX9_peek_46 : decode cX9_peek 46 = .ok (.iconst (-1), 1) := by decide +kernel
theorem dX9_peek_47 : decode cX9_peek 47 = .ok (.ireturn, 1) := by decide +kernel
theorem dX9_take_0 : decode cX9_take 0 = .ok (.aload_n 0, 1) := by decide +kernel
theorem dX9_take_1 : decode cX9_take 1 = .ok (.invokevirtual 27, 3) := by decide +kernel
theorem dX9_take_4 : decode cX9_take 4 = .ok (.iload_n 1, 1) := by decide +kernel
theorem dX9_take_5 : decode cX9_take 5 = .ok (.if_icmp .eq 5, 3) := by decide +kernel
theorem dX9_take_8 : decode cX9_take 8 = .ok (.iconst 0, 1) := by decide +kernel
theorem dX9_take_9 : decode cX9_take 9 = .ok (.ireturn, 1) := by decide +kernel
theorem dX9_take_10 : decode cX9_take 10 = .ok (.aload_n 0, 1) := by decide +kernel
theorem dX9_take_11 : decode cX9_take 11 = .ok (.dup, 1) := by decide +kernel
theorem dX9_take_12 : decode cX9_take 12 = .ok (.getfield 19, 3) := by decide +kernel
theorem dX9_take_15 : decode cX9_take 15 = .ok (.iconst 1, 1) := by decide +kernel
theorem dX9_take_16 : decode cX9_take 16 = .ok (.iadd, 1) := by decide +kernel
theorem dX9_take_17 : decode cX9_take 17 = .ok (.putfield 19, 3) := by decide +kernel
theorem dX9_take_20 : decode cX9_take 20 = .ok (.iconst 1, 1) := by decide +kernel
theorem dX9_take_21 : decode cX9_take 21 = .ok (.ireturn, 1) := by decide +kernel
theorem dX9_atDigit_0 : decode cX9_atDigit 0 = .ok (.aload_n 0, 1) := by decide +kernel
theorem dX9_atDigit_1 : decode cX9_atDigit 1 = .ok (.invokevirtual 27, 3) := by decide +kernel
theorem dX9_atDigit_4 : decode cX9_atDigit 4 = .ok (.istore_n 1, 1) := by decide +kernel
theorem dX9_atDigit_5 : decode cX9_atDigit 5 = .ok (.iload_n 1, 1) := by decide +kernel
theorem dX9_atDigit_6 : decode cX9_atDigit 6 = .ok (.bipush 48, 2) := by decide +kernel
theorem dX9_atDigit_8 : decode cX9_atDigit 8 = .ok (.if_icmp .lt 13, 3) := by decide +kernel
theorem dX9_atDigit_11 : decode cX9_atDigit 11 = .ok (.iload_n 1, 1) := by decide +kernel
theorem dX9_atDigit_12 : decode cX9_atDigit 12 = .ok (.bipush 57, 2) := by decide +kernel
theorem dX9_atDigit_14 : decode cX9_atDigit 14 = .ok (.if_icmp .gt 7, 3) := by decide +kernel
theorem dX9_atDigit_17 : decode cX9_atDigit 17 = .ok (.iconst 1, 1) := by decide +kernel
theorem dX9_atDigit_18 : decode cX9_atDigit 18 = .ok (.goto 4, 3) := by decide +kernel
theorem dX9_atDigit_21 : decode cX9_atDigit 21 = .ok (.iconst 0, 1) := by decide +kernel
theorem dX9_atDigit_22 : decode cX9_atDigit 22 = .ok (.ireturn, 1) := by decide +kernel
theorem dX9_digit_0 : decode cX9_digit 0 = .ok (.aload_n 0, 1) := by decide +kernel
theorem dX9_digit_1 : decode cX9_digit 1 = .ok (.invokevirtual 27, 3) := by decide +kernel
theorem dX9_digit_4 : decode cX9_digit 4 = .ok (.istore_n 1, 1) := by decide +kernel
theorem dX9_digit_5 : decode cX9_digit 5 = .ok (.iload_n 1, 1) := by decide +kernel
theorem dX9_digit_6 : decode cX9_digit 6 = .ok (.bipush 48, 2) := by decide +kernel
theorem dX9_digit_8 : decode cX9_digit 8 = .ok (.if_icmp .lt 9, 3) := by decide +kernel
theorem dX9_digit_11 : decode cX9_digit 11 = .ok (.iload_n 1, 1) := by decide +kernel
theorem dX9_digit_12 : decode cX9_digit 12 = .ok (.bipush 57, 2) := by decide +kernel
theorem dX9_digit_14 : decode cX9_digit 14 = .ok (.if_icmp .le 13, 3) := by decide +kernel
theorem dX9_digit_17 : decode cX9_digit 17 = .ok (.aload_n 0, 1) := by decide +kernel
theorem dX9_digit_18 : decode cX9_digit 18 = .ok (.aload_n 0, 1) := by decide +kernel
theorem dX9_digit_19 : decode cX9_digit 19 = .ok (.getfield 19, 3) := by decide +kernel
theorem dX9_digit_22 : decode cX9_digit 22 = .ok (.invokevirtual 31, 3) := by decide +kernel
theorem dX9_digit_25 : decode cX9_digit 25 = .ok (.iconst 0, 1) := by decide +kernel
theorem dX9_digit_26 : decode cX9_digit 26 = .ok (.ireturn, 1) := by decide +kernel
theorem dX9_digit_27 : decode cX9_digit 27 = .ok (.aload_n 0, 1) := by decide +kernel
theorem dX9_digit_28 : decode cX9_digit 28 = .ok (.dup, 1) := by decide +kernel
theorem dX9_digit_29 : decode cX9_digit 29 = .ok (.getfield 19, 3) := by decide +kernel
theorem dX9_digit_32 : decode cX9_digit 32 = .ok (.iconst 1, 1) := by decide +kernel
theorem dX9_digit_33 : decode cX9_digit 33 = .ok (.iadd, 1) := by decide +kernel
theorem dX9_digit_34 : decode cX9_digit 34 = .ok (.putfield 19, 3) := by decide +kernel
theorem dX9_digit_37 : decode cX9_digit 37 = .ok (.iload_n 1, 1) := by decide +kernel
theorem dX9_digit_38 : decode cX9_digit 38 = .ok (.bipush 48, 2) := by decide +kernel
theorem dX9_digit_40 : decode cX9_digit 40 = .ok (.isub, 1) := by decide +kernel
theorem dX9_digit_41 : decode cX9_digit 41 = .ok (.ireturn, 1) := by decide +kernel
theorem dX9_fail_0 : decode cX9_fail 0 = .ok (.aload_n 0, 1) := by decide +kernel
theorem dX9_fail_1 : decode cX9_fail 1 = .ok (.getfield 22, 3) := by decide +kernel
theorem dX9_fail_4 : decode cX9_fail 4 = .ok (.ifCond .ge 8, 3) := by decide +kernel
theorem dX9_fail_7 : decode cX9_fail 7 = .ok (.aload_n 0, 1) := by decide +kernel
theorem dX9_fail_8 : decode cX9_fail 8 = .ok (.iload_n 1, 1) := by decide +kernel
theorem dX9_fail_9 : decode cX9_fail 9 = .ok (.putfield 22, 3) := by decide +kernel
theorem dX9_fail_12 : decode cX9_fail 12 = .ok (.return_, 1) := by decide +kernel
theorem dX9_end_0 : decode cX9_end 0 = .ok (.aload_n 0, 1) := by decide +kernel
theorem dX9_end_1 : decode cX9_end 1 = .ok (.getfield 19, 3) := by decide +kernel
theorem dX9_end_4 : decode cX9_end 4 = .ok (.aload_n 0, 1) := by decide +kernel
theorem dX9_end_5 : decode cX9_end 5 = .ok (.getfield 15, 3) := by decide +kernel
theorem dX9_end_8 : decode cX9_end 8 = .ok (.if_icmp .ge 11, 3) := by decide +kernel
theorem dX9_end_11 : decode cX9_end 11 = .ok (.aload_n 0, 1) := by decide +kernel
theorem dX9_end_12 : decode cX9_end 12 = .ok (.aload_n 0, 1) := by decide +kernel
theorem dX9_end_13 : decode cX9_end 13 = .ok (.getfield 19, 3) := by decide +kernel
theorem dX9_end_16 : decode cX9_end 16 = .ok (.invokevirtual 31, 3) := by decide +kernel
theorem dX9_end_19 : decode cX9_end 19 = .ok (.aload_n 0, 1) := by decide +kernel
theorem dX9_end_20 : decode cX9_end 20 = .ok (.iconst 0, 1) := by decide +kernel
theorem dX9_end_21 : decode cX9_end 21 = .ok (.putfield 15, 3) := by decide +kernel
theorem dX9_end_24 : decode cX9_end 24 = .ok (.return_, 1) := by decide +kernel
theorem dX10_init_0 : decode cX10_init 0 = .ok (.aload_n 0, 1) := by decide +kernel
theorem dX10_init_1 : decode cX10_init 1 = .ok (.invokespecial 3, 3) := by decide +kernel
theorem dX10_init_4 : decode cX10_init 4 = .ok (.aload_n 0, 1) := by decide +kernel
theorem dX10_init_5 : decode cX10_init 5 = .ok (.iconst 0, 1) := by decide +kernel
theorem dX10_init_6 : decode cX10_init 6 = .ok (.putfield 9, 3) := by decide +kernel
theorem dX10_init_9 : decode cX10_init 9 = .ok (.aload_n 0, 1) := by decide +kernel
theorem dX10_init_10 : decode cX10_init 10 = .ok (.bipush 43, 2) := by decide +kernel
theorem dX10_init_12 : decode cX10_init 12 = .ok (.newarray .int, 2) := by decide +kernel
theorem dX10_init_14 : decode cX10_init 14 = .ok (.putfield 15, 3) := by decide +kernel
theorem dX10_init_17 : decode cX10_init 17 = .ok (.aload_n 0, 1) := by decide +kernel
theorem dX10_init_18 : decode cX10_init 18 = .ok (.iconst 0, 1) := by decide +kernel
theorem dX10_init_19 : decode cX10_init 19 = .ok (.putfield 19, 3) := by decide +kernel
theorem dX10_init_22 : decode cX10_init 22 = .ok (.aload_n 0, 1) := by decide +kernel
theorem dX10_init_23 : decode cX10_init 23 = .ok (.iconst 0, 1) := by decide +kernel
theorem dX10_init_24 : decode cX10_init 24 = .ok (.putfield 22, 3) := by decide +kernel
theorem dX10_init_27 : decode cX10_init 27 = .ok (.aload_n 0, 1) := by decide +kernel
theorem dX10_init_28 : decode cX10_init 28 = .ok (.bipush 12, 2) := by decide +kernel
theorem dX10_init_30 : decode cX10_init 30 = .ok (.newarray .int, 2) := by decide +kernel
theorem dX10_init_32 : decode cX10_init 32 = .ok (.putfield 25, 3) := by decide +kernel
theorem dX10_init_35 : decode cX10_init 35 = .ok (.aload_n 0, 1) := by decide +kernel
theorem dX10_init_36 : decode cX10_init 36 = .ok (.iconst 4, 1) := by decide +kernel
theorem dX10_init_37 : decode cX10_init 37 = .ok (.anewarray 28, 3) := by decide +kernel
theorem dX10_init_40 : decode cX10_init 40 = .ok (.dup, 1) := by decide +kernel
theorem dX10_init_41 : decode cX10_init 41 = .ok (.iconst 0, 1) := by decide +kernel
theorem dX10_init_42 : decode cX10_init 42 = .ok (.new 28, 3) := by decide +kernel
theorem dX10_init_45 : decode cX10_init 45 = .ok (.dup, 1) := by decide +kernel
theorem dX10_init_46 : decode cX10_init 46 = .ok (.invokespecial 30, 3) := by decide +kernel
theorem dX10_init_49 : decode cX10_init 49 = .ok (.aastore, 1) := by decide +kernel
theorem dX10_init_50 : decode cX10_init 50 = .ok (.dup, 1) := by decide +kernel
theorem dX10_init_51 : decode cX10_init 51 = .ok (.iconst 1, 1) := by decide +kernel
theorem dX10_init_52 : decode cX10_init 52 = .ok (.new 28, 3) := by decide +kernel
theorem dX10_init_55 : decode cX10_init 55 = .ok (.dup, 1) := by decide +kernel
theorem dX10_init_56 : decode cX10_init 56 = .ok (.invokespecial 30, 3) := by decide +kernel
theorem dX10_init_59 : decode cX10_init 59 = .ok (.aastore, 1) := by decide +kernel
theorem dX10_init_60 : decode cX10_init 60 = .ok (.dup, 1) := by decide +kernel
theorem dX10_init_61 : decode cX10_init 61 = .ok (.iconst 2, 1) := by decide +kernel
theorem dX10_init_62 : decode cX10_init 62 = .ok (.new 28, 3) := by decide +kernel
theorem dX10_init_65 : decode cX10_init 65 = .ok (.dup, 1) := by decide +kernel
theorem dX10_init_66 : decode cX10_init 66 = .ok (.invokespecial 30, 3) := by decide +kernel
theorem dX10_init_69 : decode cX10_init 69 = .ok (.aastore, 1) := by decide +kernel
theorem dX10_init_70 : decode cX10_init 70 = .ok (.dup, 1) := by decide +kernel
theorem dX10_init_71 : decode cX10_init 71 = .ok (.iconst 3, 1) := by decide +kernel
theorem dX10_init_72 : decode cX10_init 72 = .ok (.new 28, 3) := by decide +kernel
theorem dX10_init_75 : decode cX10_init 75 = .ok (.dup, 1) := by decide +kernel
theorem dX10_init_76 : decode cX10_init 76 = .ok (.invokespecial 30, 3) := by decide +kernel
theorem dX10_init_79 : decode cX10_init 79 = .ok (.aastore, 1) := by decide +kernel
theorem dX10_init_80 : decode cX10_init 80 = .ok (.putfield 31, 3) := by decide +kernel
theorem dX10_init_83 : decode cX10_init 83 = .ok (.aload_n 0, 1) := by decide +kernel
theorem dX10_init_84 : decode cX10_init 84 = .ok (.iconst 0, 1) := by decide +kernel
theorem dX10_init_85 : decode cX10_init 85 = .ok (.putfield 35, 3) := by decide +kernel
theorem dX10_init_88 : decode cX10_init 88 = .ok (.aload_n 0, 1) := by decide +kernel
theorem dX10_init_89 : decode cX10_init 89 = .ok (.bipush 16, 2) := by decide +kernel
theorem dX10_init_91 : decode cX10_init 91 = .ok (.newarray .int, 2) := by decide +kernel
theorem dX10_init_93 : decode cX10_init 93 = .ok (.putfield 38, 3) := by decide +kernel
theorem dX10_init_96 : decode cX10_init 96 = .ok (.bipush 24, 2) := by decide +kernel
theorem dX10_init_98 : decode cX10_init 98 = .ok (.istore_n 1, 1) := by decide +kernel
theorem dX10_init_99 : decode cX10_init 99 = .ok (.iload_n 1, 1) := by decide +kernel
theorem dX10_init_100 : decode cX10_init 100 = .ok (.bipush 40, 2) := by decide +kernel
theorem dX10_init_102 : decode cX10_init 102 = .ok (.if_icmp .ge 17, 3) := by decide +kernel
theorem dX10_init_105 : decode cX10_init 105 = .ok (.aload_n 0, 1) := by decide +kernel
theorem dX10_init_106 : decode cX10_init 106 = .ok (.getfield 15, 3) := by decide +kernel
theorem dX10_init_109 : decode cX10_init 109 = .ok (.iload_n 1, 1) := by decide +kernel
theorem dX10_init_110 : decode cX10_init 110 = .ok (.bipush 99, 2) := by decide +kernel
theorem dX10_init_112 : decode cX10_init 112 = .ok (.iastore, 1) := by decide +kernel
theorem dX10_init_113 : decode cX10_init 113 = .ok (.iinc 1 1, 3) := by decide +kernel
theorem dX10_init_116 : decode cX10_init 116 = .ok (.goto (-17), 3) := by decide +kernel
theorem dX10_init_119 : decode cX10_init 119 = .ok (.aload_n 0, 1) := by decide +kernel
theorem dX10_init_120 : decode cX10_init 120 = .ok (.getfield 15, 3) := by decide +kernel
theorem dX10_init_123 : decode cX10_init 123 = .ok (.bipush 40, 2) := by decide +kernel
theorem dX10_init_125 : decode cX10_init 125 = .ok (.bipush 10, 2) := by decide +kernel
theorem dX10_init_127 : decode cX10_init 127 = .ok (.iastore, 1) := by decide +kernel
theorem dX10_init_128 : decode cX10_init 128 = .ok (.aload_n 0, 1) := by decide +kernel
theorem dX10_init_129 : decode cX10_init 129 = .ok (.getfield 15, 3) := by decide +kernel
theorem dX10_init_132 : decode cX10_init 132 = .ok (.bipush 41, 2) := by decide +kernel
theorem dX10_init_134 : decode cX10_init 134 = .ok (.bipush 100, 2) := by decide +kernel
theorem dX10_init_136 : decode cX10_init 136 = .ok (.iastore, 1) := by decide +kernel
theorem dX10_init_137 : decode cX10_init 137 = .ok (.aload_n 0, 1) := by decide +kernel
theorem dX10_init_138 : decode cX10_init 138 = .ok (.getfield 15, 3) := by decide +kernel
theorem dX10_init_141 : decode cX10_init 141 = .ok (.bipush 42, 2) := by decide +kernel
theorem dX10_init_143 : decode cX10_init 143 = .ok (.iconst 4, 1) := by decide +kernel
theorem dX10_init_144 : decode cX10_init 144 = .ok (.iastore, 1) := by decide +kernel
theorem dX10_init_145 : decode cX10_init 145 = .ok (.return_, 1) := by decide +kernel
theorem dX10_copy_0 : decode cX10_copy 0 = .ok (.aload_n 0, 1) := by decide +kernel
theorem dX10_copy_1 : decode cX10_copy 1 = .ok (.aload_n 1, 1) := by decide +kernel
theorem dX10_copy_2 : decode cX10_copy 2 = .ok (.getfield 9, 3) := by decide +kernel
theorem dX10_copy_5 : decode cX10_copy 5 = .ok (.putfield 9, 3) := by decide +kernel
theorem dX10_copy_8 : decode cX10_copy 8 = .ok (.aload_n 1, 1) := by decide +kernel
theorem dX10_copy_9 : decode cX10_copy 9 = .ok (.getfield 15, 3) := by decide +kernel
theorem dX10_copy_12 : decode cX10_copy 12 = .ok (.iconst 0, 1) := by decide +kernel
theorem dX10_copy_13 : decode cX10_copy 13 = .ok (.aload_n 0, 1) := by decide +kernel
theorem dX10_copy_14 : decode cX10_copy 14 = .ok (.getfield 15, 3) := by decide +kernel
theorem dX10_copy_17 : decode cX10_copy 17 = .ok (.iconst 0, 1) := by decide +kernel
theorem dX10_copy_18 : decode cX10_copy 18 = .ok (.bipush 43, 2) := by decide +kernel
theorem dX10_copy_20 : decode cX10_copy 20 = .ok (.invokestatic 41, 3) := by decide +kernel
theorem dX10_copy_23 : decode cX10_copy 23 = .ok (.aload_n 0, 1) := by decide +kernel
theorem dX10_copy_24 : decode cX10_copy 24 = .ok (.aload_n 1, 1) := by decide +kernel
theorem dX10_copy_25 : decode cX10_copy 25 = .ok (.getfield 19, 3) := by decide +kernel
theorem dX10_copy_28 : decode cX10_copy 28 = .ok (.putfield 19, 3) := by decide +kernel
theorem dX10_copy_31 : decode cX10_copy 31 = .ok (.aload_n 0, 1) := by decide +kernel
theorem dX10_copy_32 : decode cX10_copy 32 = .ok (.aload_n 1, 1) := by decide +kernel
theorem dX10_copy_33 : decode cX10_copy 33 = .ok (.getfield 22, 3) := by decide +kernel
theorem dX10_copy_36 : decode cX10_copy 36 = .ok (.putfield 22, 3) := by decide +kernel
theorem dX10_copy_39 : decode cX10_copy 39 = .ok (.aload_n 1, 1) := by decide +kernel
theorem dX10_copy_40 : decode cX10_copy 40 = .ok (.getfield 25, 3) := by decide +kernel
theorem dX10_copy_43 : decode cX10_copy 43 = .ok (.iconst 0, 1) := by decide +kernel
theorem dX10_copy_44 : decode cX10_copy 44 = .ok (.aload_n 0, 1) := by decide +kernel
theorem dX10_copy_45 : decode cX10_copy 45 = .ok (.getfield 25, 3) := by decide +kernel
theorem dX10_copy_48 : decode cX10_copy 48 = .ok (.iconst 0, 1) := by decide +kernel
theorem dX10_copy_49 : decode cX10_copy 49 = .ok (.bipush 12, 2) := by decide +kernel
theorem dX10_copy_51 : decode cX10_copy 51 = .ok (.invokestatic 41, 3) := by decide +kernel
theorem dX10_copy_54 : decode cX10_copy 54 = .ok (.iconst 0, 1) := by decide +kernel
theorem dX10_copy_55 : decode cX10_copy 55 = .ok (.istore_n 2, 1) := by decide +kernel
theorem dX10_copy_56 : decode cX10_copy 56 = .ok (.iload_n 2, 1) := by decide +kernel
theorem dX10_copy_57 : decode cX10_copy 57 = .ok (.iconst 4, 1) := by decide +kernel
theorem dX10_copy_58 : decode cX10_copy 58 = .ok (.if_icmp .ge 24, 3) := by decide +kernel
theorem dX10_copy_61 : decode cX10_copy 61 = .ok (.aload_n 0, 1) := by decide +kernel
theorem dX10_copy_62 : decode cX10_copy 62 = .ok (.getfield 31, 3) := by decide +kernel
theorem dX10_copy_65 : decode cX10_copy 65 = .ok (.iload_n 2, 1) := by decide +kernel
theorem dX10_copy_66 : decode cX10_copy 66 = .ok (.aaload, 1) := by decide +kernel
theorem dX10_copy_67 : decode cX10_copy 67 = .ok (.aload_n 1, 1) := by decide +kernel
theorem dX10_copy_68 : decode cX10_copy 68 = .ok (.getfield 31, 3) := by decide +kernel
theorem dX10_copy_71 : decode cX10_copy 71 = .ok (.iload_n 2, 1) := by decide +kernel
theorem dX10_copy_72 : decode cX10_copy 72 = .ok (.aaload, 1) := by decide +kernel
theorem dX10_copy_73 : decode cX10_copy 73 = .ok (.invokevirtual 47, 3) := by decide +kernel
theorem dX10_copy_76 : decode cX10_copy 76 = .ok (.iinc 2 1, 3) := by decide +kernel
theorem dX10_copy_79 : decode cX10_copy 79 = .ok (.goto (-23), 3) := by decide +kernel
theorem dX10_copy_82 : decode cX10_copy 82 = .ok (.aload_n 0, 1) := by decide +kernel
theorem dX10_copy_83 : decode cX10_copy 83 = .ok (.aload_n 1, 1) := by decide +kernel
theorem dX10_copy_84 : decode cX10_copy 84 = .ok (.getfield 35, 3) := by decide +kernel
theorem dX10_copy_87 : decode cX10_copy 87 = .ok (.putfield 35, 3) := by decide +kernel
theorem dX10_copy_90 : decode cX10_copy 90 = .ok (.aload_n 1, 1) := by decide +kernel
theorem dX10_copy_91 : decode cX10_copy 91 = .ok (.getfield 38, 3) := by decide +kernel
theorem dX10_copy_94 : decode cX10_copy 94 = .ok (.iconst 0, 1) := by decide +kernel
theorem dX10_copy_95 : decode cX10_copy 95 = .ok (.aload_n 0, 1) := by decide +kernel
theorem dX10_copy_96 : decode cX10_copy 96 = .ok (.getfield 38, 3) := by decide +kernel
theorem dX10_copy_99 : decode cX10_copy 99 = .ok (.iconst 0, 1) := by decide +kernel
theorem dX10_copy_100 : decode cX10_copy 100 = .ok (.bipush 16, 2) := by decide +kernel
theorem dX10_copy_102 : decode cX10_copy 102 = .ok (.invokestatic 41, 3) := by decide +kernel
theorem dX10_copy_105 : decode cX10_copy 105 = .ok (.return_, 1) := by decide +kernel
theorem dX10_isHarbour_0 : decode cX10_isHarbour 0 = .ok (.iload_n 1, 1) := by decide +kernel
theorem dX10_isHarbour_1 : decode cX10_isHarbour 1 = .ok (.ifCond .lt 24, 3) := by decide +kernel
theorem dX10_isHarbour_4 : decode cX10_isHarbour 4 = .ok (.iload_n 1, 1) := by decide +kernel
theorem dX10_isHarbour_5 : decode cX10_isHarbour 5 = .ok (.iconst 4, 1) := by decide +kernel
theorem dX10_isHarbour_6 : decode cX10_isHarbour 6 = .ok (.if_icmp .ge 19, 3) := by decide +kernel
theorem dX10_isHarbour_9 : decode cX10_isHarbour 9 = .ok (.aload_n 0, 1) := by decide +kernel
theorem dX10_isHarbour_10 : decode cX10_isHarbour 10 = .ok (.getfield 9, 3) := by decide +kernel
theorem dX10_isHarbour_13 : decode cX10_isHarbour 13 = .ok (.iload_n 1, 1) := by decide +kernel
theorem dX10_isHarbour_14 : decode cX10_isHarbour 14 = .ok (.ishr, 1) := by decide +kernel
theorem dX10_isHarbour_15 : decode cX10_isHarbour 15 = .ok (.iconst 1, 1) := by decide +kernel
theorem dX10_isHarbour_16 : decode cX10_isHarbour 16 = .ok (.iand, 1) := by decide +kernel
theorem dX10_isHarbour_17 : decode cX10_isHarbour 17 = .ok (.iconst 1, 1) := by decide +kernel
theorem dX10_isHarbour_18 : decode cX10_isHarbour 18 = .ok (.if_icmp .ne 7, 3) := by decide +kernel
theorem dX10_isHarbour_21 : decode cX10_isHarbour 21 = .ok (.iconst 1, 1) := by decide +kernel
theorem dX10_isHarbour_22 : decode cX10_isHarbour 22 = .ok (.goto 4, 3) := by decide +kernel
theorem dX10_isHarbour_25 : decode cX10_isHarbour 25 = .ok (.iconst 0, 1) := by decide +kernel
theorem dX10_isHarbour_26 : decode cX10_isHarbour 26 = .ok (.ireturn, 1) := by decide +kernel
theorem dX10_isWorld_0 : decode cX10_isWorld 0 = .ok (.iload_n 1, 1) := by decide +kernel
theorem dX10_isWorld_1 : decode cX10_isWorld 1 = .ok (.ifCond .lt 24, 3) := by decide +kernel
theorem dX10_isWorld_4 : decode cX10_isWorld 4 = .ok (.iload_n 1, 1) := by decide +kernel
theorem dX10_isWorld_5 : decode cX10_isWorld 5 = .ok (.bipush 16, 2) := by decide +kernel
theorem dX10_isWorld_7 : decode cX10_isWorld 7 = .ok (.if_icmp .ge 18, 3) := by decide +kernel
theorem dX10_isWorld_10 : decode cX10_isWorld 10 = .ok (.iload_n 1, 1) := by decide +kernel
theorem dX10_isWorld_11 : decode cX10_isWorld 11 = .ok (.aload_n 0, 1) := by decide +kernel
theorem dX10_isWorld_12 : decode cX10_isWorld 12 = .ok (.getfield 9, 3) := by decide +kernel
theorem dX10_isWorld_15 : decode cX10_isWorld 15 = .ok (.iconst (-1), 1) := by decide +kernel
theorem dX10_isWorld_16 : decode cX10_isWorld 16 = .ok (.ixor, 1) := by decide +kernel
theorem dX10_isWorld_17 : decode cX10_isWorld 17 = .ok (.iand, 1) := by decide +kernel
theorem dX10_isWorld_18 : decode cX10_isWorld 18 = .ok (.ifCond .ne 7, 3) := by decide +kernel
theorem dX10_isWorld_21 : decode cX10_isWorld 21 = .ok (.iconst 1, 1) := by decide +kernel
theorem dX10_isWorld_22 : decode cX10_isWorld 22 = .ok (.goto 4, 3) := by decide +kernel
theorem dX10_isWorld_25 : decode cX10_isWorld 25 = .ok (.iconst 0, 1) := by decide +kernel
theorem dX10_isWorld_26 : decode cX10_isWorld 26 = .ok (.ireturn, 1) := by decide +kernel
theorem dX10_isPlan_0 : decode cX10_isPlan 0 = .ok (.iload_n 1, 1) := by decide +kernel
theorem dX10_isPlan_1 : decode cX10_isPlan 1 = .ok (.ifCond .lt 10, 3) := by decide +kernel
theorem dX10_isPlan_4 : decode cX10_isPlan 4 = .ok (.iload_n 1, 1) := by decide +kernel
theorem dX10_isPlan_5 : decode cX10_isPlan 5 = .ok (.sipush 256, 3) := by decide +kernel
theorem dX10_isPlan_8 : decode cX10_isPlan 8 = .ok (.if_icmp .lt 5, 3) := by decide +kernel
theorem dX10_isPlan_11 : decode cX10_isPlan 11 = .ok (.iconst 0, 1) := by decide +kernel
theorem dX10_isPlan_12 : decode cX10_isPlan 12 = .ok (.ireturn, 1) := by decide +kernel
theorem dX10_isPlan_13 : decode cX10_isPlan 13 = .ok (.iconst 0, 1) := by decide +kernel
theorem dX10_isPlan_14 : decode cX10_isPlan 14 = .ok (.istore_n 2, 1) := by decide +kernel
theorem dX10_isPlan_15 : decode cX10_isPlan 15 = .ok (.iload_n 2, 1) := by decide +kernel
theorem dX10_isPlan_16 : decode cX10_isPlan 16 = .ok (.iconst 4, 1) := by decide +kernel
theorem dX10_isPlan_17 : decode cX10_isPlan 17 = .ok (.if_icmp .ge 32, 3) := by decide +kernel
theorem dX10_isPlan_20 : decode cX10_isPlan 20 = .ok (.iload_n 1, 1) := by decide +kernel
theorem dX10_isPlan_21 : decode cX10_isPlan 21 = .ok (.iconst 2, 1) := by decide +kernel
theorem dX10_isPlan_22 : decode cX10_isPlan 22 = .ok (.iload_n 2, 1) := by decide +kernel
theorem dX10_isPlan_23 : decode cX10_isPlan 23 = .ok (.imul, 1) := by decide +kernel
theorem dX10_isPlan_24 : decode cX10_isPlan 24 = .ok (.ishr, 1) := by decide +kernel
theorem dX10_isPlan_25 : decode cX10_isPlan 25 = .ok (.iconst 3, 1) := by decide +kernel
theorem dX10_isPlan_26 : decode cX10_isPlan 26 = .ok (.iand, 1) := by decide +kernel
theorem dX10_isPlan_27 : decode cX10_isPlan 27 = .ok (.ifCond .le 16, 3) := by decide +kernel
theorem dX10_isPlan_30 : decode cX10_isPlan 30 = .ok (.aload_n 0, 1) := by decide +kernel
theorem dX10_isPlan_31 : decode cX10_isPlan 31 = .ok (.getfield 9, 3) := by decide +kernel
theorem dX10_isPlan_34 : decode cX10_isPlan 34 = .ok (.iload_n 2, 1) := by decide +kernel
theorem dX10_isPlan_35 : decode cX10_isPlan 35 = .ok (.ishr, 1) := by decide +kernel
theorem dX10_isPlan_36 : decode cX10_isPlan 36 = .ok (.iconst 1, 1) := by decide +kernel
theorem dX10_isPlan_37 : decode cX10_isPlan 37 = .ok (.iand, 1) := by decide +kernel
theorem dX10_isPlan_38 : decode cX10_isPlan 38 = .ok (.ifCond .ne 5, 3) := by decide +kernel
theorem dX10_isPlan_41 : decode cX10_isPlan 41 = .ok (.iconst 0, 1) := by decide +kernel
theorem dX10_isPlan_42 : decode cX10_isPlan 42 = .ok (.ireturn, 1) := by decide +kernel
theorem dX10_isPlan_43 : decode cX10_isPlan 43 = .ok (.iinc 2 1, 3) := by decide +kernel
theorem dX10_isPlan_46 : decode cX10_isPlan 46 = .ok (.goto (-31), 3) := by decide +kernel
theorem dX10_isPlan_49 : decode cX10_isPlan 49 = .ok (.iconst 1, 1) := by decide +kernel
theorem dX10_isPlan_50 : decode cX10_isPlan 50 = .ok (.ireturn, 1) := by decide +kernel
theorem dX10_fare_0 : decode cX10_fare 0 = .ok (.iconst 0, 1) := by decide +kernel
theorem dX10_fare_1 : decode cX10_fare 1 = .ok (.istore_n 2, 1) := by decide +kernel
theorem dX10_fare_2 : decode cX10_fare 2 = .ok (.iconst 0, 1) := by decide +kernel
theorem dX10_fare_3 : decode cX10_fare 3 = .ok (.istore_n 3, 1) := by decide +kernel
theorem dX10_fare_4 : decode cX10_fare 4 = .ok (.iload_n 3, 1) := by decide +kernel
theorem dX10_fare_5 : decode cX10_fare 5 = .ok (.iconst 4, 1) := by decide +kernel
theorem dX10_fare_6 : decode cX10_fare 6 = .ok (.if_icmp .ge 31, 3) := by decide +kernel
theorem dX10_fare_9 : decode cX10_fare 9 = .ok (.iload_n 2, 1) := by decide +kernel
theorem dX10_fare_10 : decode cX10_fare 10 = .ok (.iload_n 1, 1) := by decide +kernel
theorem dX10_fare_11 : decode cX10_fare 11 = .ok (.iconst 2, 1) := by decide +kernel
theorem dX10_fare_12 : decode cX10_fare 12 = .ok (.iload_n 3, 1) := by decide +kernel
theorem dX10_fare_13 : decode cX10_fare 13 = .ok (.imul, 1) := by decide +kernel
theorem dX10_fare_14 : decode cX10_fare 14 = .ok (.ishr, 1) := by decide +kernel
theorem dX10_fare_15 : decode cX10_fare 15 = .ok (.iconst 3, 1) := by decide +kernel
theorem dX10_fare_16 : decode cX10_fare 16 = .ok (.iand, 1) := by decide +kernel
theorem dX10_fare_17 : decode cX10_fare 17 = .ok (.aload_n 0, 1) := by decide +kernel
theorem dX10_fare_18 : decode cX10_fare 18 = .ok (.getfield 15, 3) := by decide +kernel
theorem dX10_fare_21 : decode cX10_fare 21 = .ok (.iload_n 3, 1) := by decide +kernel
theorem dX10_fare_22 : decode cX10_fare 22 = .ok (.bipush 6, 2) := by decide +kernel
theorem dX10_fare_24 : decode cX10_fare 24 = .ok (.imul, 1) := by decide +kernel
theorem dX10_fare_25 : decode cX10_fare 25 = .ok (.iconst 2, 1) := by decide +kernel
theorem dX10_fare_26 : decode cX10_fare 26 = .ok (.iadd, 1) := by decide +kernel
theorem dX10_fare_27 : decode cX10_fare 27 = .ok (.iaload, 1) := by decide +kernel
theorem dX10_fare_28 : decode cX10_fare 28 = .ok (.imul, 1) := by decide +kernel
theorem dX10_fare_29 : decode cX10_fare 29 = .ok (.iadd, 1) := by decide +kernel
theorem dX10_fare_30 : decode cX10_fare 30 = .ok (.istore_n 2, 1) := by decide +kernel
theorem dX10_fare_31 : decode cX10_fare 31 = .ok (.iinc 3 1, 3) := by decide +kernel
theorem dX10_fare_34 : decode cX10_fare 34 = .ok (.goto (-30), 3) := by decide +kernel
theorem dX10_fare_37 : decode cX10_fare 37 = .ok (.iload_n 2, 1) := by decide +kernel
theorem dX10_fare_38 : decode cX10_fare 38 = .ok (.ireturn, 1) := by decide +kernel
theorem dX10_balance_0 : decode cX10_balance 0 = .ok (.iload_n 2, 1) := by decide +kernel
theorem dX10_balance_1 : decode cX10_balance 1 = .ok (.iconst 2, 1) := by decide +kernel
theorem dX10_balance_2 : decode cX10_balance 2 = .ok (.iload_n 1, 1) := by decide +kernel
theorem dX10_balance_3 : decode cX10_balance 3 = .ok (.imul, 1) := by decide +kernel
theorem dX10_balance_4 : decode cX10_balance 4 = .ok (.ishr, 1) := by decide +kernel
theorem dX10_balance_5 : decode cX10_balance 5 = .ok (.iconst 3, 1) := by decide +kernel
theorem dX10_balance_6 : decode cX10_balance 6 = .ok (.iand, 1) := by decide +kernel
theorem dX10_balance_7 : decode cX10_balance 7 = .ok (.aload_n 0, 1) := by decide +kernel
theorem dX10_balance_8 : decode cX10_balance 8 = .ok (.getfield 15, 3) := by decide +kernel
theorem dX10_balance_11 : decode cX10_balance 11 = .ok (.bipush 40, 2) := by decide +kernel
theorem dX10_balance_13 : decode cX10_balance 13 = .ok (.iaload, 1) := by decide +kernel
theorem dX10_balance_14 : decode cX10_balance 14 = .ok (.imul, 1) := by decide +kernel
theorem dX10_balance_15 : decode cX10_balance 15 = .ok (.istore 4, 2) := by decide +kernel
theorem dX10_balance_17 : decode cX10_balance 17 = .ok (.iload_n 3, 1) := by decide +kernel
theorem dX10_balance_18 : decode cX10_balance 18 = .ok (.iload_n 1, 1) := by decide +kernel
theorem dX10_balance_19 : decode cX10_balance 19 = .ok (.ishr, 1) := by decide +kernel
theorem dX10_balance_20 : decode cX10_balance 20 = .ok (.iconst 1, 1) := by decide +kernel
theorem dX10_balance_21 : decode cX10_balance 21 = .ok (.iand, 1) := by decide +kernel
theorem dX10_balance_22 : decode cX10_balance 22 = .ok (.aload_n 0, 1) := by decide +kernel
theorem dX10_balance_23 : decode cX10_balance 23 = .ok (.getfield 15, 3) := by decide +kernel
theorem dX10_balance_26 : decode cX10_balance 26 = .ok (.iload_n 1, 1) := by decide +kernel
theorem dX10_balance_27 : decode cX10_balance 27 = .ok (.bipush 6, 2) := by decide +kernel
theorem dX10_balance_29 : decode cX10_balance 29 = .ok (.imul, 1) := by decide +kernel
theorem dX10_balance_30 : decode cX10_balance 30 = .ok (.iconst 1, 1) := by decide +kernel
theorem dX10_balance_31 : decode cX10_balance 31 = .ok (.iadd, 1) := by decide +kernel
theorem dX10_balance_32 : decode cX10_balance 32 = .ok (.iaload, 1) := by decide +kernel
theorem dX10_balance_33 : decode cX10_balance 33 = .ok (.imul, 1) := by decide +kernel
theorem dX10_balance_34 : decode cX10_balance 34 = .ok (.istore 5, 2) := by decide +kernel
theorem dX10_balance_36 : decode cX10_balance 36 = .ok (.iload 4, 2) := by decide +kernel
theorem dX10_balance_38 : decode cX10_balance 38 = .ok (.aload_n 0, 1) := by decide +kernel
theorem dX10_balance_39 : decode cX10_balance 39 = .ok (.getfield 15, 3) := by decide +kernel
theorem dX10_balance_42 : decode cX10_balance 42 = .ok (.iload_n 1, 1) := by decide +kernel
theorem dX10_balance_43 : decode cX10_balance 43 = .ok (.bipush 6, 2) := by decide +kernel
theorem dX10_balance_45 : decode cX10_balance 45 = .ok (.imul, 1) := by decide +kernel
theorem dX10_balance_46 : decode cX10_balance 46 = .ok (.iconst 0, 1) := by decide +kernel
theorem dX10_balance_47 : decode cX10_balance 47 = .ok (.iadd, 1) := by decide +kernel
theorem dX10_balance_48 : decode cX10_balance 48 = .ok (.iaload, 1) := by decide +kernel
theorem dX10_balance_49 : decode cX10_balance 49 = .ok (.isub, 1) := by decide +kernel
theorem dX10_balance_50 : decode cX10_balance 50 = .ok (.iload 5, 2) := by decide +kernel
theorem dX10_balance_52 : decode cX10_balance 52 = .ok (.isub, 1) := by decide +kernel
theorem dX10_balance_53 : decode cX10_balance 53 = .ok (.ireturn, 1) := by decide +kernel
theorem dX10_seenBy_0 : decode cX10_seenBy 0 = .ok (.iconst 0, 1) := by decide +kernel
theorem dX10_seenBy_1 : decode cX10_seenBy 1 = .ok (.istore_n 2, 1) := by decide +kernel
theorem dX10_seenBy_2 : decode cX10_seenBy 2 = .ok (.iconst 0, 1) := by decide +kernel
theorem dX10_seenBy_3 : decode cX10_seenBy 3 = .ok (.istore_n 3, 1) := by decide +kernel
theorem dX10_seenBy_4 : decode cX10_seenBy 4 = .ok (.iload_n 3, 1) := by decide +kernel
theorem dX10_seenBy_5 : decode cX10_seenBy 5 = .ok (.iconst 4, 1) := by decide +kernel
theorem dX10_seenBy_6 : decode cX10_seenBy 6 = .ok (.if_icmp .ge 30, 3) := by decide +kernel
theorem dX10_seenBy_9 : decode cX10_seenBy 9 = .ok (.aload_n 0, 1) := by decide +kernel
theorem dX10_seenBy_10 : decode cX10_seenBy 10 = .ok (.getfield 15, 3) := by decide +kernel
theorem dX10_seenBy_13 : decode cX10_seenBy 13 = .ok (.iload_n 3, 1) := by decide +kernel
theorem dX10_seenBy_14 : decode cX10_seenBy 14 = .ok (.bipush 6, 2) := by decide +kernel
theorem dX10_seenBy_16 : decode cX10_seenBy 16 = .ok (.imul, 1) := by decide +kernel
theorem dX10_seenBy_17 : decode cX10_seenBy 17 = .ok (.iconst 5, 1) := by decide +kernel
theorem dX10_seenBy_18 : decode cX10_seenBy 18 = .ok (.iadd, 1) := by decide +kernel
theorem dX10_seenBy_19 : decode cX10_seenBy 19 = .ok (.iaload, 1) := by decide +kernel
theorem dX10_seenBy_20 : decode cX10_seenBy 20 = .ok (.iload_n 1, 1) := by decide +kernel
theorem dX10_seenBy_21 : decode cX10_seenBy 21 = .ok (.if_icmp .gt 9, 3) := by decide +kernel
theorem dX10_seenBy_24 : decode cX10_seenBy 24 = .ok (.iload_n 2, 1) := by decide +kernel
theorem dX10_seenBy_25 : decode cX10_seenBy 25 = .ok (.iconst 1, 1) := by decide +kernel
theorem dX10_seenBy_26 : decode cX10_seenBy 26 = .ok (.iload_n 3, 1) := by decide +kernel
theorem dX10_seenBy_27 : decode cX10_seenBy 27 = .ok (.ishl, 1) := by decide +kernel
theorem dX10_seenBy_28 : decode cX10_seenBy 28 = .ok (.ior, 1) := by decide +kernel
theorem dX10_seenBy_29 : decode cX10_seenBy 29 = .ok (.istore_n 2, 1) := by decide +kernel
theorem dX10_seenBy_30 : decode cX10_seenBy 30 = .ok (.iinc 3 1, 3) := by decide +kernel
theorem dX10_seenBy_33 : decode cX10_seenBy 33 = .ok (.goto (-29), 3) := by decide +kernel
theorem dX10_seenBy_36 : decode cX10_seenBy 36 = .ok (.iload_n 2, 1) := by decide +kernel
theorem dX10_seenBy_37 : decode cX10_seenBy 37 = .ok (.aload_n 0, 1) := by decide +kernel
theorem dX10_seenBy_38 : decode cX10_seenBy 38 = .ok (.getfield 9, 3) := by decide +kernel
theorem dX10_seenBy_41 : decode cX10_seenBy 41 = .ok (.iand, 1) := by decide +kernel
theorem dX10_seenBy_42 : decode cX10_seenBy 42 = .ok (.ireturn, 1) := by decide +kernel
theorem dX10_worldsWith_0 : decode cX10_worldsWith 0 = .ok (.iconst 0, 1) := by decide +kernel
theorem dX10_worldsWith_1 : decode cX10_worldsWith 1 = .ok (.istore_n 2, 1) := by decide +kernel
theorem dX10_worldsWith_2 : decode cX10_worldsWith 2 = .ok (.iconst 0, 1) := by decide +kernel
theorem dX10_worldsWith_3 : decode cX10_worldsWith 3 = .ok (.istore_n 3, 1) := by decide +kernel
theorem dX10_worldsWith_4 : decode cX10_worldsWith 4 = .ok (.iload_n 3, 1) := by decide +kernel
theorem dX10_worldsWith_5 : decode cX10_worldsWith 5 = .ok (.bipush 16, 2) := by decide +kernel
theorem dX10_worldsWith_7 : decode cX10_worldsWith 7 = .ok (.if_icmp .ge 31, 3) := by decide +kernel
theorem dX10_worldsWith_10 : decode cX10_worldsWith 10 = .ok (.aload_n 0, 1) := by decide +kernel
theorem dX10_worldsWith_11 : decode cX10_worldsWith 11 = .ok (.iload_n 3, 1) := by decide +kernel
theorem dX10_worldsWith_12 : decode cX10_worldsWith 12 = .ok (.invokevirtual 51, 3) := by decide +kernel
theorem dX10_worldsWith_15 : decode cX10_worldsWith 15 = .ok (.ifCond .eq 17, 3) := by decide +kernel
theorem dX10_worldsWith_18 : decode cX10_worldsWith 18 = .ok (.iload_n 3, 1) := by decide +kernel
theorem dX10_worldsWith_19 : decode cX10_worldsWith 19 = .ok (.invokestatic 55, 3) := by decide +kernel
theorem dX10_worldsWith_22 : decode cX10_worldsWith 22 = .ok (.iload_n 1, 1) := by decide +kernel
theorem dX10_worldsWith_23 : decode cX10_worldsWith 23 = .ok (.if_icmp .gt 9, 3) := by decide +kernel
theorem dX10_worldsWith_26 : decode cX10_worldsWith 26 = .ok (.iload_n 2, 1) := by decide +kernel
theorem dX10_worldsWith_27 : decode cX10_worldsWith 27 = .ok (.iconst 1, 1) := by decide +kernel
theorem dX10_worldsWith_28 : decode cX10_worldsWith 28 = .ok (.iload_n 3, 1) := by decide +kernel
theorem dX10_worldsWith_29 : decode cX10_worldsWith 29 = .ok (.ishl, 1) := by decide +kernel
theorem dX10_worldsWith_30 : decode cX10_worldsWith 30 = .ok (.ior, 1) := by decide +kernel
theorem dX10_worldsWith_31 : decode cX10_worldsWith 31 = .ok (.istore_n 2, 1) := by decide +kernel
theorem dX10_worldsWith_32 : decode cX10_worldsWith 32 = .ok (.iinc 3 1, 3) := by decide +kernel
theorem dX10_worldsWith_35 : decode cX10_worldsWith 35 = .ok (.goto (-31), 3) := by decide +kernel
theorem dX10_worldsWith_38 : decode cX10_worldsWith 38 = .ok (.iconst 0, 1) := by decide +kernel
theorem dX10_worldsWith_39 : decode cX10_worldsWith 39 = .ok (.istore_n 3, 1) := by decide +kernel
theorem dX10_worldsWith_40 : decode cX10_worldsWith 40 = .ok (.iload_n 3, 1) := by decide +kernel
theorem dX10_worldsWith_41 : decode cX10_worldsWith 41 = .ok (.aload_n 0, 1) := by decide +kernel
theorem dX10_worldsWith_42 : decode cX10_worldsWith 42 = .ok (.getfield 19, 3) := by decide +kernel
theorem dX10_worldsWith_45 : decode cX10_worldsWith 45 = .ok (.if_icmp .ge 30, 3) := by decide +kernel
theorem dX10_worldsWith_48 : decode cX10_worldsWith 48 = .ok (.aload_n 0, 1) := by decide +kernel
theorem dX10_worldsWith_49 : decode cX10_worldsWith 49 = .ok (.getfield 22, 3) := by decide +kernel
theorem dX10_worldsWith_52 : decode cX10_worldsWith 52 = .ok (.iload_n 3, 1) := by decide +kernel
theorem dX10_worldsWith_53 : decode cX10_worldsWith 53 = .ok (.ishr, 1) := by decide +kernel
theorem dX10_worldsWith_54 : decode cX10_worldsWith 54 = .ok (.iconst 1, 1) := by decide +kernel
theorem dX10_worldsWith_55 : decode cX10_worldsWith 55 = .ok (.iand, 1) := by decide +kernel
theorem dX10_worldsWith_56 : decode cX10_worldsWith 56 = .ok (.iconst 1, 1) := by decide +kernel
theorem dX10_worldsWith_57 : decode cX10_worldsWith 57 = .ok (.if_icmp .ne 12, 3) := by decide +kernel
theorem dX10_worldsWith_60 : decode cX10_worldsWith 60 = .ok (.iload_n 2, 1) := by decide +kernel
theorem dX10_worldsWith_61 : decode cX10_worldsWith 61 = .ok (.aload_n 0, 1) := by decide +kernel
theorem dX10_worldsWith_62 : decode cX10_worldsWith 62 = .ok (.getfield 25, 3) := by decide +kernel
theorem dX10_worldsWith_65 : decode cX10_worldsWith 65 = .ok (.iload_n 3, 1) := by decide +kernel
theorem dX10_worldsWith_66 : decode cX10_worldsWith 66 = .ok (.iaload, 1) := by decide +kernel
theorem dX10_worldsWith_67 : decode cX10_worldsWith 67 = .ok (.iand, 1) := by decide +kernel
theorem dX10_worldsWith_68 : decode cX10_worldsWith 68 = .ok (.istore_n 2, 1) := by decide +kernel
theorem dX10_worldsWith_69 : decode cX10_worldsWith 69 = .ok (.iinc 3 1, 3) := by decide +kernel
theorem dX10_worldsWith_72 : decode cX10_worldsWith 72 = .ok (.goto (-32), 3) := by decide +kernel
theorem dX10_worldsWith_75 : decode cX10_worldsWith 75 = .ok (.iload_n 2, 1) := by decide +kernel
theorem dX10_worldsWith_76 : decode cX10_worldsWith 76 = .ok (.ireturn, 1) := by decide +kernel
theorem dX10_addLaw_0 : decode cX10_addLaw 0 = .ok (.aload_n 0, 1) := by decide +kernel
theorem dX10_addLaw_1 : decode cX10_addLaw 1 = .ok (.getfield 19, 3) := by decide +kernel
theorem dX10_addLaw_4 : decode cX10_addLaw 4 = .ok (.bipush 12, 2) := by decide +kernel
theorem dX10_addLaw_6 : decode cX10_addLaw 6 = .ok (.if_icmp .lt 6, 3) := by decide +kernel
theorem dX10_addLaw_9 : decode cX10_addLaw 9 = .ok (.bipush (-9), 2) := by decide +kernel
theorem dX10_addLaw_11 : decode cX10_addLaw 11 = .ok (.ireturn, 1) := by decide +kernel
theorem dX10_addLaw_12 : decode cX10_addLaw 12 = .ok (.aload_n 0, 1) := by decide +kernel
theorem dX10_addLaw_13 : decode cX10_addLaw 13 = .ok (.getfield 25, 3) := by decide +kernel
theorem dX10_addLaw_16 : decode cX10_addLaw 16 = .ok (.aload_n 0, 1) := by decide +kernel
theorem dX10_addLaw_17 : decode cX10_addLaw 17 = .ok (.getfield 19, 3) := by decide +kernel
theorem dX10_addLaw_20 : decode cX10_addLaw 20 = .ok (.iload_n 1, 1) := by decide +kernel
theorem dX10_addLaw_21 : decode cX10_addLaw 21 = .ok (.iastore, 1) := by decide +kernel
theorem dX10_addLaw_22 : decode cX10_addLaw 22 = .ok (.aload_n 0, 1) := by decide +kernel
theorem dX10_addLaw_23 : decode cX10_addLaw 23 = .ok (.dup, 1) := by decide +kernel
theorem dX10_addLaw_24 : decode cX10_addLaw 24 = .ok (.getfield 22, 3) := by decide +kernel
theorem dX10_addLaw_27 : decode cX10_addLaw 27 = .ok (.iconst 1, 1) := by decide +kernel
theorem dX10_addLaw_28 : decode cX10_addLaw 28 = .ok (.aload_n 0, 1) := by decide +kernel
theorem dX10_addLaw_29 : decode cX10_addLaw 29 = .ok (.getfield 19, 3) := by decide +kernel
theorem dX10_addLaw_32 : decode cX10_addLaw 32 = .ok (.ishl, 1) := by decide +kernel
theorem dX10_addLaw_33 : decode cX10_addLaw 33 = .ok (.ior, 1) := by decide +kernel
theorem dX10_addLaw_34 : decode cX10_addLaw 34 = .ok (.putfield 22, 3) := by decide +kernel
theorem dX10_addLaw_37 : decode cX10_addLaw 37 = .ok (.aload_n 0, 1) := by decide +kernel
theorem dX10_addLaw_38 : decode cX10_addLaw 38 = .ok (.dup, 1) := by decide +kernel
theorem dX10_addLaw_39 : decode cX10_addLaw 39 = .ok (.getfield 19, 3) := by decide +kernel
theorem dX10_addLaw_42 : decode cX10_addLaw 42 = .ok (.iconst 1, 1) := by decide +kernel
theorem dX10_addLaw_43 : decode cX10_addLaw 43 = .ok (.iadd, 1) := by decide +kernel
theorem dX10_addLaw_44 : decode cX10_addLaw 44 = .ok (.putfield 19, 3) := by decide +kernel
theorem dX10_addLaw_47 : decode cX10_addLaw 47 = .ok (.aload_n 0, 1) := by decide +kernel
theorem dX10_addLaw_48 : decode cX10_addLaw 48 = .ok (.getfield 19, 3) := by decide +kernel
theorem dX10_addLaw_51 : decode cX10_addLaw 51 = .ok (.iconst 1, 1) := by decide +kernel
theorem dX10_addLaw_52 : decode cX10_addLaw 52 = .ok (.isub, 1) := by decide +kernel
theorem dX10_addLaw_53 : decode cX10_addLaw 53 = .ok (.ireturn, 1) := by decide +kernel
theorem dX10_rulesTold_0 : decode cX10_rulesTold 0 = .ok (.iconst 0, 1) := by decide +kernel
theorem dX10_rulesTold_1 : decode cX10_rulesTold 1 = .ok (.istore_n 1, 1) := by decide +kernel
theorem dX10_rulesTold_2 : decode cX10_rulesTold 2 = .ok (.iconst 0, 1) := by decide +kernel
theorem dX10_rulesTold_3 : decode cX10_rulesTold 3 = .ok (.istore_n 2, 1) := by decide +kernel
theorem dX10_rulesTold_4 : decode cX10_rulesTold 4 = .ok (.iload_n 2, 1) := by decide +kernel
theorem dX10_rulesTold_5 : decode cX10_rulesTold 5 = .ok (.iconst 4, 1) := by decide +kernel
theorem dX10_rulesTold_6 : decode cX10_rulesTold 6 = .ok (.if_icmp .ge 24, 3) := by decide +kernel
theorem dX10_rulesTold_9 : decode cX10_rulesTold 9 = .ok (.aload_n 0, 1) := by decide +kernel
theorem dX10_rulesTold_10 : decode cX10_rulesTold 10 = .ok (.getfield 31, 3) := by decide +kernel
theorem dX10_rulesTold_13 : decode cX10_rulesTold 13 = .ok (.iload_n 2, 1) := by decide +kernel
theorem dX10_rulesTold_14 : decode cX10_rulesTold 14 = .ok (.aaload, 1) := by decide +kernel
theorem dX10_rulesTold_15 : decode cX10_rulesTold 15 = .ok (.getfield 61, 3) := by decide +kernel
theorem dX10_rulesTold_18 : decode cX10_rulesTold 18 = .ok (.ifCond .le 6, 3) := by decide +kernel
theorem dX10_rulesTold_21 : decode cX10_rulesTold 21 = .ok (.iinc 1 1, 3) := by decide +kernel
theorem dX10_rulesTold_24 : decode cX10_rulesTold 24 = .ok (.iinc 2 1, 3) := by decide +kernel
theorem dX10_rulesTold_27 : decode cX10_rulesTold 27 = .ok (.goto (-23), 3) := by decide +kernel
theorem dX10_rulesTold_30 : decode cX10_rulesTold 30 = .ok (.iload_n 1, 1) := by decide +kernel
theorem dX10_rulesTold_31 : decode cX10_rulesTold 31 = .ok (.ireturn, 1) := by decide +kernel
theorem dX10_yearsIn_0 : decode cX10_yearsIn 0 = .ok (.iconst 0, 1) := by decide +kernel
theorem dX10_yearsIn_1 : decode cX10_yearsIn 1 = .ok (.istore_n 2, 1) := by decide +kernel
theorem dX10_yearsIn_2 : decode cX10_yearsIn 2 = .ok (.iconst 0, 1) := by decide +kernel
theorem dX10_yearsIn_3 : decode cX10_yearsIn 3 = .ok (.istore_n 3, 1) := by decide +kernel
theorem dX10_yearsIn_4 : decode cX10_yearsIn 4 = .ok (.iload_n 3, 1) := by decide +kernel
theorem dX10_yearsIn_5 : decode cX10_yearsIn 5 = .ok (.bipush 16, 2) := by decide +kernel
theorem dX10_yearsIn_7 : decode cX10_yearsIn 7 = .ok (.if_icmp .ge 27, 3) := by decide +kernel
theorem dX10_yearsIn_10 : decode cX10_yearsIn 10 = .ok (.iload_n 1, 1) := by decide +kernel
theorem dX10_yearsIn_11 : decode cX10_yearsIn 11 = .ok (.iload_n 3, 1) := by decide +kernel
theorem dX10_yearsIn_12 : decode cX10_yearsIn 12 = .ok (.ishr, 1) := by decide +kernel
theorem dX10_yearsIn_13 : decode cX10_yearsIn 13 = .ok (.iconst 1, 1) := by decide +kernel
theorem dX10_yearsIn_14 : decode cX10_yearsIn 14 = .ok (.iand, 1) := by decide +kernel
theorem dX10_yearsIn_15 : decode cX10_yearsIn 15 = .ok (.iconst 1, 1) := by decide +kernel
theorem dX10_yearsIn_16 : decode cX10_yearsIn 16 = .ok (.if_icmp .ne 12, 3) := by decide +kernel
theorem dX10_yearsIn_19 : decode cX10_yearsIn 19 = .ok (.iload_n 2, 1) := by decide +kernel
theorem dX10_yearsIn_20 : decode cX10_yearsIn 20 = .ok (.aload_n 0, 1) := by decide +kernel
theorem dX10_yearsIn_21 : decode cX10_yearsIn 21 = .ok (.getfield 38, 3) := by decide +kernel
theorem dX10_yearsIn_24 : decode cX10_yearsIn 24 = .ok (.iload_n 3, 1) := by decide +kernel
theorem dX10_yearsIn_25 : decode cX10_yearsIn 25 = .ok (.iaload, 1) := by decide +kernel
theorem dX10_yearsIn_26 : decode cX10_yearsIn 26 = .ok (.iadd, 1) := by decide +kernel
theorem dX10_yearsIn_27 : decode cX10_yearsIn 27 = .ok (.istore_n 2, 1) := by decide +kernel
theorem dX10_yearsIn_28 : decode cX10_yearsIn 28 = .ok (.iinc 3 1, 3) := by decide +kernel
theorem dX10_yearsIn_31 : decode cX10_yearsIn 31 = .ok (.goto (-27), 3) := by decide +kernel
theorem dX10_yearsIn_34 : decode cX10_yearsIn 34 = .ok (.iload_n 2, 1) := by decide +kernel
theorem dX10_yearsIn_35 : decode cX10_yearsIn 35 = .ok (.ireturn, 1) := by decide +kernel
theorem dX11_init_0 : decode cX11_init 0 = .ok (.aload_n 0, 1) := by decide +kernel
theorem dX11_init_1 : decode cX11_init 1 = .ok (.invokespecial 3, 3) := by decide +kernel
theorem dX11_init_4 : decode cX11_init 4 = .ok (.aload_n 0, 1) := by decide +kernel
theorem dX11_init_5 : decode cX11_init 5 = .ok (.new 9, 3) := by decide +kernel
theorem dX11_init_8 : decode cX11_init 8 = .ok (.dup, 1) := by decide +kernel
theorem dX11_init_9 : decode cX11_init 9 = .ok (.invokespecial 11, 3) := by decide +kernel
theorem dX11_init_12 : decode cX11_init 12 = .ok (.putfield 12, 3) := by decide +kernel
theorem dX11_init_15 : decode cX11_init 15 = .ok (.aload_n 0, 1) := by decide +kernel
theorem dX11_init_16 : decode cX11_init 16 = .ok (.new 9, 3) := by decide +kernel
theorem dX11_init_19 : decode cX11_init 19 = .ok (.dup, 1) := by decide +kernel
theorem dX11_init_20 : decode cX11_init 20 = .ok (.invokespecial 11, 3) := by decide +kernel
theorem dX11_init_23 : decode cX11_init 23 = .ok (.putfield 16, 3) := by decide +kernel
theorem dX11_init_26 : decode cX11_init 26 = .ok (.aload_n 0, 1) := by decide +kernel
theorem dX11_init_27 : decode cX11_init 27 = .ok (.iconst 0, 1) := by decide +kernel
theorem dX11_init_28 : decode cX11_init 28 = .ok (.putfield 19, 3) := by decide +kernel
theorem dX11_init_31 : decode cX11_init 31 = .ok (.aload_n 0, 1) := by decide +kernel
theorem dX11_init_32 : decode cX11_init 32 = .ok (.new 23, 3) := by decide +kernel
theorem dX11_init_35 : decode cX11_init 35 = .ok (.dup, 1) := by decide +kernel
theorem dX11_init_36 : decode cX11_init 36 = .ok (.invokespecial 25, 3) := by decide +kernel
theorem dX11_init_39 : decode cX11_init 39 = .ok (.putfield 26, 3) := by decide +kernel
theorem dX11_init_42 : decode cX11_init 42 = .ok (.aload_n 0, 1) := by decide +kernel
theorem dX11_init_43 : decode cX11_init 43 = .ok (.new 30, 3) := by decide +kernel
theorem dX11_init_46 : decode cX11_init 46 = .ok (.dup, 1) := by decide +kernel
theorem dX11_init_47 : decode cX11_init 47 = .ok (.invokespecial 32, 3) := by decide +kernel
theorem dX11_init_50 : decode cX11_init 50 = .ok (.putfield 33, 3) := by decide +kernel
theorem dX11_init_53 : decode cX11_init 53 = .ok (.aload_n 0, 1) := by decide +kernel
theorem dX11_init_54 : decode cX11_init 54 = .ok (.bipush 12, 2) := by decide +kernel
theorem dX11_init_56 : decode cX11_init 56 = .ok (.newarray .int, 2) := by decide +kernel
theorem dX11_init_58 : decode cX11_init 58 = .ok (.putfield 37, 3) := by decide +kernel
theorem dX11_init_61 : decode cX11_init 61 = .ok (.aload_n 0, 1) := by decide +kernel
theorem dX11_init_62 : decode cX11_init 62 = .ok (.iconst 0, 1) := by decide +kernel
theorem dX11_init_63 : decode cX11_init 63 = .ok (.putfield 41, 3) := by decide +kernel
theorem dX11_init_66 : decode cX11_init 66 = .ok (.aload_n 0, 1) := by decide +kernel
theorem dX11_init_67 : decode cX11_init 67 = .ok (.bipush 7, 2) := by decide +kernel
theorem dX11_init_69 : decode cX11_init 69 = .ok (.newarray .int, 2) := by decide +kernel
theorem dX11_init_71 : decode cX11_init 71 = .ok (.putfield 45, 3) := by decide +kernel
theorem dX11_init_74 : decode cX11_init 74 = .ok (.aload_n 0, 1) := by decide +kernel
theorem dX11_init_75 : decode cX11_init 75 = .ok (.new 48, 3) := by decide +kernel
theorem dX11_init_78 : decode cX11_init 78 = .ok (.dup, 1) := by decide +kernel
theorem dX11_init_79 : decode cX11_init 79 = .ok (.aload_n 0, 1) := by decide +kernel
theorem dX11_init_80 : decode cX11_init 80 = .ok (.getfield 12, 3) := by decide +kernel
theorem dX11_init_83 : decode cX11_init 83 = .ok (.invokespecial 50, 3) := by decide +kernel
theorem dX11_init_86 : decode cX11_init 86 = .ok (.putfield 53, 3) := by decide +kernel
theorem dX11_init_89 : decode cX11_init 89 = .ok (.aload_n 0, 1) := by decide +kernel
theorem dX11_init_90 : decode cX11_init 90 = .ok (.new 57, 3) := by decide +kernel
theorem dX11_init_93 : decode cX11_init 93 = .ok (.dup, 1) := by decide +kernel
theorem dX11_init_94 : decode cX11_init 94 = .ok (.aload_n 0, 1) := by decide +kernel
theorem dX11_init_95 : decode cX11_init 95 = .ok (.getfield 12, 3) := by decide +kernel
theorem dX11_init_98 : decode cX11_init 98 = .ok (.invokespecial 59, 3) := by decide +kernel
theorem dX11_init_101 : decode cX11_init 101 = .ok (.putfield 60, 3) := by decide +kernel
theorem dX11_init_104 : decode cX11_init 104 = .ok (.aload_n 0, 1) := by decide +kernel
theorem dX11_init_105 : decode cX11_init 105 = .ok (.new 64, 3) := by decide +kernel
theorem dX11_init_108 : decode cX11_init 108 = .ok (.dup, 1) := by decide +kernel
theorem dX11_init_109 : decode cX11_init 109 = .ok (.aload_n 0, 1) := by decide +kernel
theorem dX11_init_110 : decode cX11_init 110 = .ok (.getfield 60, 3) := by decide +kernel
theorem dX11_init_113 : decode cX11_init 113 = .ok (.invokespecial 66, 3) := by decide +kernel
theorem dX11_init_116 : decode cX11_init 116 = .ok (.putfield 69, 3) := by decide +kernel
theorem dX11_init_119 : decode cX11_init 119 = .ok (.aload_n 0, 1) := by decide +kernel
theorem dX11_init_120 : decode cX11_init 120 = .ok (.new 73, 3) := by decide +kernel
theorem dX11_init_123 : decode cX11_init 123 = .ok (.dup, 1) := by decide +kernel
theorem dX11_init_124 : decode cX11_init 124 = .ok (.aload_n 0, 1) := by decide +kernel
theorem dX11_init_125 : decode cX11_init 125 = .ok (.getfield 60, 3) := by decide +kernel
theorem dX11_init_128 : decode cX11_init 128 = .ok (.invokespecial 75, 3) := by decide +kernel
theorem dX11_init_131 : decode cX11_init 131 = .ok (.putfield 76, 3) := by decide +kernel
theorem dX11_init_134 : decode cX11_init 134 = .ok (.return_, 1) := by decide +kernel
theorem dX11_harbour_0 : decode cX11_harbour 0 = .ok (.iload_n 1, 1) := by decide +kernel
theorem dX11_harbour_1 : decode cX11_harbour 1 = .ok (.ifCond .lt 8, 3) := by decide +kernel
theorem dX11_harbour_4 : decode cX11_harbour 4 = .ok (.iload_n 1, 1) := by decide +kernel
theorem dX11_harbour_5 : decode cX11_harbour 5 = .ok (.iconst 4, 1) := by decide +kernel
theorem dX11_harbour_6 : decode cX11_harbour 6 = .ok (.if_icmp .lt 9, 3) := by decide +kernel
theorem dX11_harbour_9 : decode cX11_harbour 9 = .ok (.aload_n 0, 1) := by decide +kernel
theorem dX11_harbour_10 : decode cX11_harbour 10 = .ok (.iconst (-1), 1) := by decide +kernel
theorem dX11_harbour_11 : decode cX11_harbour 11 = .ok (.invokevirtual 80, 3) := by decide +kernel
theorem dX11_harbour_14 : decode cX11_harbour 14 = .ok (.ireturn, 1) := by decide +kernel
theorem dX11_harbour_15 : decode cX11_harbour 15 = .ok (.aload_n 0, 1) := by decide +kernel
theorem dX11_harbour_16 : decode cX11_harbour 16 = .ok (.getfield 12, 3) := by decide +kernel
theorem dX11_harbour_19 : decode cX11_harbour 19 = .ok (.iload_n 1, 1) := by decide +kernel
theorem dX11_harbour_20 : decode cX11_harbour 20 = .ok (.invokevirtual 84, 3) := by decide +kernel
theorem dX11_harbour_23 : decode cX11_harbour 23 = .ok (.ifCond .eq 10, 3) := by decide +kernel
theorem dX11_harbour_26 : decode cX11_harbour 26 = .ok (.aload_n 0, 1) := by decide +kernel
theorem dX11_harbour_27 : decode cX11_harbour 27 = .ok (.bipush (-3), 2) := by decide +kernel
theorem dX11_harbour_29 : decode cX11_harbour 29 = .ok (.invokevirtual 80, 3) := by decide +kernel
theorem dX11_harbour_32 : decode cX11_harbour 32 = .ok (.ireturn, 1) := by decide +kernel
theorem dX11_harbour_33 : decode cX11_harbour 33 = .ok (.aload_n 0, 1) := by decide +kernel
theorem dX11_harbour_34 : decode cX11_harbour 34 = .ok (.getfield 12, 3) := by decide +kernel
theorem dX11_harbour_37 : decode cX11_harbour 37 = .ok (.dup, 1) := by decide +kernel
theorem dX11_harbour_38 : decode cX11_harbour 38 = .ok (.getfield 88, 3) := by decide +kernel
theorem dX11_harbour_41 : decode cX11_harbour 41 = .ok (.iconst 1, 1) := by decide +kernel
theorem dX11_harbour_42 : decode cX11_harbour 42 = .ok (.iload_n 1, 1) := by decide +kernel
theorem dX11_harbour_43 : decode cX11_harbour 43 = .ok (.ishl, 1) := by decide +kernel
theorem dX11_harbour_44 : decode cX11_harbour 44 = .ok (.ior, 1) := by decide +kernel
theorem dX11_harbour_45 : decode cX11_harbour 45 = .ok (.putfield 88, 3) := by decide +kernel
theorem dX11_harbour_48 : decode cX11_harbour 48 = .ok (.aload_n 0, 1) := by decide +kernel
theorem dX11_harbour_49 : decode cX11_harbour 49 = .ok (.getfield 60, 3) := by decide +kernel
theorem dX11_harbour_52 : decode cX11_harbour 52 = .ok (.invokevirtual 91, 3) := by decide +kernel
theorem dX11_harbour_55 : decode cX11_harbour 55 = .ok (.iconst 1, 1) := by decide +kernel
theorem dX11_harbour_56 : decode cX11_harbour 56 = .ok (.ireturn, 1) := by decide +kernel
theorem dX11_tell_0 : decode cX11_tell 0 = .ok (.aload_n 0, 1) := by decide +kernel
theorem dX11_tell_1 : decode cX11_tell 1 = .ok (.getfield 12, 3) := by decide +kernel
theorem dX11_tell_4 : decode cX11_tell 4 = .ok (.iload_n 1, 1) := by decide +kernel
theorem dX11_tell_5 : decode cX11_tell 5 = .ok (.invokevirtual 84, 3) := by decide +kernel
theorem dX11_tell_8 : decode cX11_tell 8 = .ok (.ifCond .ne 9, 3) := by decide +kernel
theorem dX11_tell_11 : decode cX11_tell 11 = .ok (.aload_n 0, 1) := by decide +kernel
theorem dX11_tell_12 : decode cX11_tell 12 = .ok (.iconst (-1), 1) := by decide +kernel
theorem dX11_tell_13 : decode cX11_tell 13 = .ok (.invokevirtual 80, 3) := by decide +kernel
theorem dX11_tell_16 : decode cX11_tell 16 = .ok (.ireturn, 1) := by decide +kernel
theorem dX11_tell_17 : decode cX11_tell 17 = .ok (.iload_n 2, 1) := by decide +kernel
theorem dX11_tell_18 : decode cX11_tell 18 = .ok (.ifCond .lt 9, 3) := by decide +kernel
theorem dX11_tell_21 : decode cX11_tell 21 = .ok (.iload_n 2, 1) := by decide +kernel
theorem dX11_tell_22 : decode cX11_tell 22 = .ok (.bipush 6, 2) := by decide +kernel
theorem dX11_tell_24 : decode cX11_tell 24 = .ok (.if_icmp .lt 10, 3) := by decide +kernel
theorem dX11_tell_27 : decode cX11_tell 27 = .ok (.aload_n 0, 1) := by decide +kernel
theorem dX11_tell_28 : decode cX11_tell 28 = .ok (.bipush (-2), 2) := by decide +kernel
theorem dX11_tell_30 : decode cX11_tell 30 = .ok (.invokevirtual 80, 3) := by decide +kernel
theorem dX11_tell_33 : decode cX11_tell 33 = .ok (.ireturn, 1) := by decide +kernel
theorem dX11_tell_34 : decode cX11_tell 34 = .ok (.aload_n 0, 1) := by decide +kernel
theorem dX11_tell_35 : decode cX11_tell 35 = .ok (.iload_n 1, 1) := by decide +kernel
theorem dX11_tell_36 : decode cX11_tell 36 = .ok (.bipush 6, 2) := by decide +kernel
theorem dX11_tell_38 : decode cX11_tell 38 = .ok (.imul, 1) := by decide +kernel
theorem dX11_tell_39 : decode cX11_tell 39 = .ok (.iload_n 2, 1) := by decide +kernel
theorem dX11_tell_40 : decode cX11_tell 40 = .ok (.iadd, 1) := by decide +kernel
theorem dX11_tell_41 : decode cX11_tell 41 = .ok (.iload_n 3, 1) := by decide +kernel
theorem dX11_tell_42 : decode cX11_tell 42 = .ok (.iconst 0, 1) := by decide +kernel
theorem dX11_tell_43 : decode cX11_tell 43 = .ok (.getstatic 94, 3) := by decide +kernel
theorem dX11_tell_46 : decode cX11_tell 46 = .ok (.iload_n 2, 1) := by decide +kernel
theorem dX11_tell_47 : decode cX11_tell 47 = .ok (.iaload, 1) := by decide +kernel
theorem dX11_tell_48 : decode cX11_tell 48 = .ok (.invokevirtual 97, 3) := by decide +kernel
theorem dX11_tell_51 : decode cX11_tell 51 = .ok (.ireturn, 1) := by decide +kernel
theorem dX11_move_0 : decode cX11_move 0 = .ok (.aload_n 0, 1) := by decide +kernel
theorem dX11_move_1 : decode cX11_move 1 = .ok (.getfield 12, 3) := by decide +kernel
theorem dX11_move_4 : decode cX11_move 4 = .ok (.iload_n 1, 1) := by decide +kernel
theorem dX11_move_5 : decode cX11_move 5 = .ok (.invokevirtual 84, 3) := by decide +kernel
theorem dX11_move_8 : decode cX11_move 8 = .ok (.ifCond .eq 19, 3) := by decide +kernel
theorem dX11_move_11 : decode cX11_move 11 = .ok (.aload_n 0, 1) := by decide +kernel
theorem dX11_move_12 : decode cX11_move 12 = .ok (.getfield 12, 3) := by decide +kernel
theorem dX11_move_15 : decode cX11_move 15 = .ok (.iload_n 2, 1) := by decide +kernel
theorem dX11_move_16 : decode cX11_move 16 = .ok (.invokevirtual 84, 3) := by decide +kernel
theorem dX11_move_19 : decode cX11_move 19 = .ok (.ifCond .eq 8, 3) := by decide +kernel
theorem dX11_move_22 : decode cX11_move 22 = .ok (.iload_n 1, 1) := by decide +kernel
theorem dX11_move_23 : decode cX11_move 23 = .ok (.iload_n 2, 1) := by decide +kernel
theorem dX11_move_24 : decode cX11_move 24 = .ok (.if_icmp .ne 9, 3) := by decide +kernel
theorem dX11_move_27 : decode cX11_move 27 = .ok (.aload_n 0, 1) := by decide +kernel
theorem dX11_move_28 : decode cX11_move 28 = .ok (.iconst (-1), 1) := by decide +kernel
theorem dX11_move_29 : decode cX11_move 29 = .ok (.invokevirtual 80, 3) := by decide +kernel
theorem dX11_move_32 : decode cX11_move 32 = .ok (.ireturn, 1) := by decide +kernel
theorem dX11_move_33 : decode cX11_move 33 = .ok (.aload_n 0, 1) := by decide +kernel
theorem dX11_move_34 : decode cX11_move 34 = .ok (.bipush 24, 2) := by decide +kernel
theorem dX11_move_36 : decode cX11_move 36 = .ok (.iload_n 1, 1) := by decide +kernel
theorem dX11_move_37 : decode cX11_move 37 = .ok (.iconst 4, 1) := by decide +kernel
theorem dX11_move_38 : decode cX11_move 38 = .ok (.imul, 1) := by decide +kernel
theorem dX11_move_39 : decode cX11_move 39 = .ok (.iadd, 1) := by decide +kernel
theorem dX11_move_40 : decode cX11_move 40 = .ok (.iload_n 2, 1) := by decide +kernel
theorem dX11_move_41 : decode cX11_move 41 = .ok (.iadd, 1) := by decide +kernel
theorem dX11_move_42 : decode cX11_move 42 = .ok (.iload_n 3, 1) := by decide +kernel
theorem dX11_move_43 : decode cX11_move 43 = .ok (.iconst 0, 1) := by decide +kernel
theorem dX11_move_44 : decode cX11_move 44 = .ok (.bipush 99, 2) := by decide +kernel
theorem dX11_move_46 : decode cX11_move 46 = .ok (.invokevirtual 97, 3) := by decide +kernel
theorem dX11_move_49 : decode cX11_move 49 = .ok (.ireturn, 1) := by decide +kernel
theorem dX11_set_0 : decode cX11_set 0 = .ok (.iload_n 1, 1) := by decide +kernel
theorem dX11_set_1 : decode cX11_set 1 = .ok (.ifCond .lt 11, 3) := by decide +kernel
theorem dX11_set_4 : decode cX11_set 4 = .ok (.iload_n 1, 1) := by decide +kernel
theorem dX11_set_5 : decode cX11_set 5 = .ok (.getstatic 101, 3) := by decide +kernel
theorem dX11_set_8 : decode cX11_set 8 = .ok (.arraylength, 1) := by decide +kernel
theorem dX11_set_9 : decode cX11_set 9 = .ok (.if_icmp .lt 10, 3) := by decide +kernel
theorem dX11_set_12 : decode cX11_set 12 = .ok (.aload_n 0, 1) := by decide +kernel
theorem dX11_set_13 : decode cX11_set 13 = .ok (.bipush (-2), 2) := by decide +kernel
theorem dX11_set_15 : decode cX11_set 15 = .ok (.invokevirtual 80, 3) := by decide +kernel
theorem dX11_set_18 : decode cX11_set 18 = .ok (.ireturn, 1) := by decide +kernel
theorem dX11_set_19 : decode cX11_set 19 = .ok (.aload_n 0, 1) := by decide +kernel
theorem dX11_set_20 : decode cX11_set 20 = .ok (.bipush 40, 2) := by decide +kernel
theorem dX11_set_22 : decode cX11_set 22 = .ok (.iload_n 1, 1) := by decide +kernel
theorem dX11_set_23 : decode cX11_set 23 = .ok (.iadd, 1) := by decide +kernel
theorem dX11_set_24 : decode cX11_set 24 = .ok (.iload_n 2, 1) := by decide +kernel
theorem dX11_set_25 : decode cX11_set 25 = .ok (.getstatic 101, 3) := by decide +kernel
theorem dX11_set_28 : decode cX11_set 28 = .ok (.iload_n 1, 1) := by decide +kernel
theorem dX11_set_29 : decode cX11_set 29 = .ok (.iaload, 1) := by decide +kernel
theorem dX11_set_30 : decode cX11_set 30 = .ok (.getstatic 104, 3) := by decide +kernel
theorem dX11_set_33 : decode cX11_set 33 = .ok (.iload_n 1, 1) := by decide +kernel
theorem dX11_set_34 : decode cX11_set 34 = .ok (.iaload, 1) := by decide +kernel
theorem dX11_set_35 : decode cX11_set 35 = .ok (.invokevirtual 97, 3) := by decide +kernel
theorem dX11_set_38 : decode cX11_set 38 = .ok (.ireturn, 1) := by decide +kernel
theorem dX11_undo_0 : decode cX11_undo 0 = .ok (.aload_n 0, 1) := by decide +kernel
theorem dX11_undo_1 : decode cX11_undo 1 = .ok (.getfield 26, 3) := by decide +kernel
theorem dX11_undo_4 : decode cX11_undo 4 = .ok (.getfield 107, 3) := by decide +kernel
theorem dX11_undo_7 : decode cX11_undo 7 = .ok (.ifCond .ne 10, 3) := by decide +kernel
theorem dX11_undo_10 : decode cX11_undo 10 = .ok (.aload_n 0, 1) := by decide +kernel
theorem dX11_undo_11 : decode cX11_undo 11 = .ok (.bipush (-3), 2) := by decide +kernel
theorem dX11_undo_13 : decode cX11_undo 13 = .ok (.invokevirtual 80, 3) := by decide +kernel
theorem dX11_undo_16 : decode cX11_undo 16 = .ok (.ireturn, 1) := by decide +kernel
theorem dX11_undo_17 : decode cX11_undo 17 = .ok (.aload_n 0, 1) := by decide +kernel
theorem dX11_undo_18 : decode cX11_undo 18 = .ok (.getfield 26, 3) := by decide +kernel
theorem dX11_undo_21 : decode cX11_undo 21 = .ok (.aload_n 0, 1) := by decide +kernel
theorem dX11_undo_22 : decode cX11_undo 22 = .ok (.getfield 12, 3) := by decide +kernel
theorem dX11_undo_25 : decode cX11_undo 25 = .ok (.getfield 110, 3) := by decide +kernel
theorem dX11_undo_28 : decode cX11_undo 28 = .ok (.invokevirtual 113, 3) := by decide +kernel
theorem dX11_undo_31 : decode cX11_undo 31 = .ok (.aload_n 0, 1) := by decide +kernel
theorem dX11_undo_32 : decode cX11_undo 32 = .ok (.getfield 60, 3) := by decide +kernel
theorem dX11_undo_35 : decode cX11_undo 35 = .ok (.invokevirtual 91, 3) := by decide +kernel
theorem dX11_undo_38 : decode cX11_undo 38 = .ok (.iconst 1, 1) := by decide +kernel
theorem dX11_undo_39 : decode cX11_undo 39 = .ok (.ireturn, 1) := by decide +kernel
theorem dX11_feed_0 : decode cX11_feed 0 = .ok (.iload_n 1, 1) := by decide +kernel
theorem dX11_feed_1 : decode cX11_feed 1 = .ok (.iconst 1, 1) := by decide +kernel
theorem dX11_feed_2 : decode cX11_feed 2 = .ok (.if_icmp .ge 10, 3) := by decide +kernel
theorem dX11_feed_5 : decode cX11_feed 5 = .ok (.aload_n 0, 1) := by decide +kernel
theorem dX11_feed_6 : decode cX11_feed 6 = .ok (.bipush (-4), 2) := by decide +kernel
theorem dX11_feed_8 : decode cX11_feed 8 = .ok (.invokevirtual 80, 3) := by decide +kernel
theorem dX11_feed_11 : decode cX11_feed 11 = .ok (.ireturn, 1) := by decide +kernel
theorem dX11_feed_12 : decode cX11_feed 12 = .ok (.iload_n 1, 1) := by decide +kernel
theorem dX11_feed_13 : decode cX11_feed 13 = .ok (.bipush 8, 2) := by decide +kernel
theorem dX11_feed_15 : decode cX11_feed 15 = .ok (.if_icmp .gt 17, 3) := by decide +kernel
theorem dX11_feed_18 : decode cX11_feed 18 = .ok (.aload_n 0, 1) := by decide +kernel
theorem dX11_feed_19 : decode cX11_feed 19 = .ok (.getfield 33, 3) := by decide +kernel
theorem dX11_feed_22 : decode cX11_feed 22 = .ok (.getfield 117, 3) := by decide +kernel
theorem dX11_feed_25 : decode cX11_feed 25 = .ok (.iload_n 1, 1) := by decide +kernel
theorem dX11_feed_26 : decode cX11_feed 26 = .ok (.iadd, 1) := by decide +kernel
theorem dX11_feed_27 : decode cX11_feed 27 = .ok (.bipush 40, 2) := by decide +kernel
theorem dX11_feed_29 : decode cX11_feed 29 = .ok (.if_icmp .le 10, 3) := by decide +kernel
theorem dX11_feed_32 : decode cX11_feed 32 = .ok (.aload_n 0, 1) := by decide +kernel
theorem dX11_feed_33 : decode cX11_feed 33 = .ok (.bipush (-6), 2) := by decide +kernel
theorem dX11_feed_35 : decode cX11_feed 35 = .ok (.invokevirtual 80, 3) := by decide +kernel
theorem dX11_feed_38 : decode cX11_feed 38 = .ok (.ireturn, 1) := by decide +kernel
theorem dX11_feed_39 : decode cX11_feed 39 = .ok (.aload_n 0, 1) := by decide +kernel
theorem dX11_feed_40 : decode cX11_feed 40 = .ok (.getfield 33, 3) := by decide +kernel
theorem dX11_feed_43 : decode cX11_feed 43 = .ok (.iload_n 1, 1) := by decide +kernel
theorem dX11_feed_44 : decode cX11_feed 44 = .ok (.lload_n 2, 1) := by decide +kernel
theorem dX11_feed_45 : decode cX11_feed 45 = .ok (.invokevirtual 120, 3) := by decide +kernel
theorem dX11_feed_48 : decode cX11_feed 48 = .ok (.aload_n 0, 1) := by decide +kernel
theorem dX11_feed_49 : decode cX11_feed 49 = .ok (.getfield 33, 3) := by decide +kernel
theorem dX11_feed_52 : decode cX11_feed 52 = .ok (.getfield 117, 3) := by decide +kernel
theorem dX11_feed_55 : decode cX11_feed 55 = .ok (.ireturn, 1) := by decide +kernel
theorem dX11_law_0 : decode cX11_law 0 = .ok (.aload_n 0, 1) := by decide +kernel
theorem dX11_law_1 : decode cX11_law 1 = .ok (.getfield 12, 3) := by decide +kernel
theorem dX11_law_4 : decode cX11_law 4 = .ok (.getfield 124, 3) := by decide +kernel
theorem dX11_law_7 : decode cX11_law 7 = .ok (.bipush 12, 2) := by decide +kernel
theorem dX11_law_9 : decode cX11_law 9 = .ok (.if_icmp .lt 10, 3) := by decide +kernel
theorem dX11_law_12 : decode cX11_law 12 = .ok (.aload_n 0, 1) := by decide +kernel
theorem dX11_law_13 : decode cX11_law 13 = .ok (.bipush (-6), 2) := by decide +kernel
theorem dX11_law_15 : decode cX11_law 15 = .ok (.invokevirtual 80, 3) := by decide +kernel
theorem dX11_law_18 : decode cX11_law 18 = .ok (.ireturn, 1) := by decide +kernel
theorem dX11_law_19 : decode cX11_law 19 = .ok (.aload_n 0, 1) := by decide +kernel
theorem dX11_law_20 : decode cX11_law 20 = .ok (.getfield 33, 3) := by decide +kernel
theorem dX11_law_23 : decode cX11_law 23 = .ok (.invokestatic 127, 3) := by decide +kernel
theorem dX11_law_26 : decode cX11_law 26 = .ok (.istore_n 1, 1) := by decide +kernel
theorem dX11_law_27 : decode cX11_law 27 = .ok (.aload_n 0, 1) := by decide +kernel
theorem dX11_law_28 : decode cX11_law 28 = .ok (.getfield 33, 3) := by decide +kernel
theorem dX11_law_31 : decode cX11_law 31 = .ok (.getfield 133, 3) := by decide +kernel
theorem dX11_law_34 : decode cX11_law 34 = .ok (.ifCond .lt 16, 3) := by decide +kernel
theorem dX11_law_37 : decode cX11_law 37 = .ok (.bipush (-20), 2) := by decide +kernel
theorem dX11_law_39 : decode cX11_law 39 = .ok (.aload_n 0, 1) := by decide +kernel
theorem dX11_law_40 : decode cX11_law 40 = .ok (.getfield 33, 3) := by decide +kernel
theorem dX11_law_43 : decode cX11_law 43 = .ok (.getfield 133, 3) := by decide +kernel
theorem dX11_law_46 : decode cX11_law 46 = .ok (.isub, 1) := by decide +kernel
theorem dX11_law_47 : decode cX11_law 47 = .ok (.goto 11, 3) := by decide +kernel
theorem dX11_law_50 : decode cX11_law 50 = .ok (.aload_n 0, 1) := by decide +kernel
theorem dX11_law_51 : decode cX11_law 51 = .ok (.getfield 12, 3) := by decide +kernel
theorem dX11_law_54 : decode cX11_law 54 = .ok (.iload_n 1, 1) := by decide +kernel
theorem dX11_law_55 : decode cX11_law 55 = .ok (.invokevirtual 136, 3) := by decide +kernel
theorem dX11_law_58 : decode cX11_law 58 = .ok (.ireturn, 1) := by decide +kernel
theorem dX11_holds_0 : decode cX11_holds 0 = .ok (.iload_n 1, 1) := by decide +kernel
theorem dX11_holds_1 : decode cX11_holds 1 = .ok (.ifCond .lt 14, 3) := by decide +kernel
theorem dX11_holds_4 : decode cX11_holds 4 = .ok (.iload_n 1, 1) := by decide +kernel
theorem dX11_holds_5 : decode cX11_holds 5 = .ok (.aload_n 0, 1) := by decide +kernel
theorem dX11_holds_6 : decode cX11_holds 6 = .ok (.getfield 12, 3) := by decide +kernel
theorem dX11_holds_9 : decode cX11_holds 9 = .ok (.getfield 124, 3) := by decide +kernel
theorem dX11_holds_12 : decode cX11_holds 12 = .ok (.if_icmp .lt 9, 3) := by decide +kernel
theorem dX11_holds_15 : decode cX11_holds 15 = .ok (.aload_n 0, 1) := by decide +kernel
theorem dX11_holds_16 : decode cX11_holds 16 = .ok (.iconst (-1), 1) := by decide +kernel
theorem dX11_holds_17 : decode cX11_holds 17 = .ok (.invokevirtual 80, 3) := by decide +kernel
theorem dX11_holds_20 : decode cX11_holds 20 = .ok (.ireturn, 1) := by decide +kernel
theorem dX11_holds_21 : decode cX11_holds 21 = .ok (.aload_n 0, 1) := by decide +kernel
theorem dX11_holds_22 : decode cX11_holds 22 = .ok (.getfield 12, 3) := by decide +kernel
theorem dX11_holds_25 : decode cX11_holds 25 = .ok (.getfield 139, 3) := by decide +kernel
theorem dX11_holds_28 : decode cX11_holds 28 = .ok (.iload_n 1, 1) := by decide +kernel
theorem dX11_holds_29 : decode cX11_holds 29 = .ok (.ishr, 1) := by decide +kernel
theorem dX11_holds_30 : decode cX11_holds 30 = .ok (.iconst 1, 1) := by decide +kernel
theorem dX11_holds_31 : decode cX11_holds 31 = .ok (.iand, 1) := by decide +kernel
theorem dX11_holds_32 : decode cX11_holds 32 = .ok (.iconst 1, 1) := by decide +kernel
theorem dX11_holds_33 : decode cX11_holds 33 = .ok (.if_icmp .ne 7, 3) := by decide +kernel
theorem dX11_holds_36 : decode cX11_holds 36 = .ok (.iconst 1, 1) := by decide +kernel
theorem dX11_holds_37 : decode cX11_holds 37 = .ok (.goto 4, 3) := by decide +kernel
theorem dX11_holds_40 : decode cX11_holds 40 = .ok (.iconst 0, 1) := by decide +kernel
theorem dX11_holds_41 : decode cX11_holds 41 = .ok (.istore_n 3, 1) := by decide +kernel
theorem dX11_holds_42 : decode cX11_holds 42 = .ok (.iload_n 3, 1) := by decide +kernel
theorem dX11_holds_43 : decode cX11_holds 43 = .ok (.iload_n 2, 1) := by decide +kernel
theorem dX11_holds_44 : decode cX11_holds 44 = .ok (.if_icmp .ne 5, 3) := by decide +kernel
theorem dX11_holds_47 : decode cX11_holds 47 = .ok (.iconst 0, 1) := by decide +kernel
theorem dX11_holds_48 : decode cX11_holds 48 = .ok (.ireturn, 1) := by decide +kernel
theorem dX11_holds_49 : decode cX11_holds 49 = .ok (.aload_n 0, 1) := by decide +kernel
theorem dX11_holds_50 : decode cX11_holds 50 = .ok (.getfield 12, 3) := by decide +kernel
theorem dX11_holds_53 : decode cX11_holds 53 = .ok (.dup, 1) := by decide +kernel
theorem dX11_holds_54 : decode cX11_holds 54 = .ok (.getfield 139, 3) := by decide +kernel
theorem dX11_holds_57 : decode cX11_holds 57 = .ok (.iconst 1, 1) := by decide +kernel
theorem dX11_holds_58 : decode cX11_holds 58 = .ok (.iload_n 1, 1) := by decide +kernel
theorem dX11_holds_59 : decode cX11_holds 59 = .ok (.ishl, 1) := by decide +kernel
theorem dX11_holds_60 : decode cX11_holds 60 = .ok (.ixor, 1) := by decide +kernel
theorem dX11_holds_61 : decode cX11_holds 61 = .ok (.putfield 139, 3) := by decide +kernel
theorem dX11_holds_64 : decode cX11_holds 64 = .ok (.iconst 1, 1) := by decide +kernel
theorem dX11_holds_65 : decode cX11_holds 65 = .ok (.ireturn, 1) := by decide +kernel
theorem dX11_rule_0 : decode cX11_rule 0 = .ok (.aload_n 0, 1) := by decide +kernel
theorem dX11_rule_1 : decode cX11_rule 1 = .ok (.getfield 12, 3) := by decide +kernel
theorem dX11_rule_4 : decode cX11_rule 4 = .ok (.iload_n 1, 1) := by decide +kernel
theorem dX11_rule_5 : decode cX11_rule 5 = .ok (.invokevirtual 84, 3) := by decide +kernel
theorem dX11_rule_8 : decode cX11_rule 8 = .ok (.ifCond .ne 9, 3) := by decide +kernel
theorem dX11_rule_11 : decode cX11_rule 11 = .ok (.aload_n 0, 1) := by decide +kernel
theorem dX11_rule_12 : decode cX11_rule 12 = .ok (.iconst (-1), 1) := by decide +kernel
theorem dX11_rule_13 : decode cX11_rule 13 = .ok (.invokevirtual 80, 3) := by decide +kernel
theorem dX11_rule_16 : decode cX11_rule 16 = .ok (.ireturn, 1) := by decide +kernel
theorem dX11_rule_17 : decode cX11_rule 17 = .ok (.iload_n 2, 1) := by decide +kernel
theorem dX11_rule_18 : decode cX11_rule 18 = .ok (.ifCond .ge 10, 3) := by decide +kernel
theorem dX11_rule_21 : decode cX11_rule 21 = .ok (.aload_n 0, 1) := by decide +kernel
theorem dX11_rule_22 : decode cX11_rule 22 = .ok (.bipush (-4), 2) := by decide +kernel
theorem dX11_rule_24 : decode cX11_rule 24 = .ok (.invokevirtual 80, 3) := by decide +kernel
theorem dX11_rule_27 : decode cX11_rule 27 = .ok (.ireturn, 1) := by decide +kernel
theorem dX11_rule_28 : decode cX11_rule 28 = .ok (.iload_n 2, 1) := by decide +kernel
theorem dX11_rule_29 : decode cX11_rule 29 = .ok (.bipush 9, 2) := by decide +kernel
theorem dX11_rule_31 : decode cX11_rule 31 = .ok (.if_icmp .le 10, 3) := by decide +kernel
theorem dX11_rule_34 : decode cX11_rule 34 = .ok (.aload_n 0, 1) := by decide +kernel
theorem dX11_rule_35 : decode cX11_rule 35 = .ok (.bipush (-6), 2) := by decide +kernel
theorem dX11_rule_37 : decode cX11_rule 37 = .ok (.invokevirtual 80, 3) := by decide +kernel
theorem dX11_rule_40 : decode cX11_rule 40 = .ok (.ireturn, 1) := by decide +kernel
theorem dX11_rule_41 : decode cX11_rule 41 = .ok (.aload_n 0, 1) := by decide +kernel
theorem dX11_rule_42 : decode cX11_rule 42 = .ok (.getfield 53, 3) := by decide +kernel
theorem dX11_rule_45 : decode cX11_rule 45 = .ok (.aload_n 0, 1) := by decide +kernel
theorem dX11_rule_46 : decode cX11_rule 46 = .ok (.getfield 33, 3) := by decide +kernel
theorem dX11_rule_49 : decode cX11_rule 49 = .ok (.aload_n 0, 1) := by decide +kernel
theorem dX11_rule_50 : decode cX11_rule 50 = .ok (.getfield 12, 3) := by decide +kernel
theorem dX11_rule_53 : decode cX11_rule 53 = .ok (.iload_n 2, 1) := by decide +kernel
theorem dX11_rule_54 : decode cX11_rule 54 = .ok (.invokevirtual 142, 3) := by decide +kernel
theorem dX11_rule_57 : decode cX11_rule 57 = .ok (.invokevirtual 145, 3) := by decide +kernel
theorem dX11_rule_60 : decode cX11_rule 60 = .ok (.aload_n 0, 1) := by decide +kernel
theorem dX11_rule_61 : decode cX11_rule 61 = .ok (.getfield 33, 3) := by decide +kernel
theorem dX11_rule_64 : decode cX11_rule 64 = .ok (.getfield 133, 3) := by decide +kernel
theorem dX11_rule_67 : decode cX11_rule 67 = .ok (.ifCond .lt 14, 3) := by decide +kernel
theorem dX11_rule_70 : decode cX11_rule 70 = .ok (.bipush (-20), 2) := by decide +kernel
theorem dX11_rule_72 : decode cX11_rule 72 = .ok (.aload_n 0, 1) := by decide +kernel
theorem dX11_rule_73 : decode cX11_rule 73 = .ok (.getfield 33, 3) := by decide +kernel
theorem dX11_rule_76 : decode cX11_rule 76 = .ok (.getfield 133, 3) := by decide +kernel
theorem dX11_rule_79 : decode cX11_rule 79 = .ok (.isub, 1) := by decide +kernel
theorem dX11_rule_80 : decode cX11_rule 80 = .ok (.ireturn, 1) := by decide +kernel
theorem dX11_rule_81 : decode cX11_rule 81 = .ok (.aload_n 0, 1) := by decide +kernel
theorem dX11_rule_82 : decode cX11_rule 82 = .ok (.getfield 53, 3) := by decide +kernel
theorem dX11_rule_85 : decode cX11_rule 85 = .ok (.iload_n 1, 1) := by decide +kernel
theorem dX11_rule_86 : decode cX11_rule 86 = .ok (.invokevirtual 149, 3) := by decide +kernel
theorem dX11_rule_89 : decode cX11_rule 89 = .ok (.iconst 1, 1) := by decide +kernel
theorem dX11_rule_90 : decode cX11_rule 90 = .ok (.ireturn, 1) := by decide +kernel
theorem dX11_unrule_0 : decode cX11_unrule 0 = .ok (.aload_n 0, 1) := by decide +kernel
theorem dX11_unrule_1 : decode cX11_unrule 1 = .ok (.getfield 12, 3) := by decide +kernel
theorem dX11_unrule_4 : decode cX11_unrule 4 = .ok (.iload_n 1, 1) := by decide +kernel
theorem dX11_unrule_5 : decode cX11_unrule 5 = .ok (.invokevirtual 84, 3) := by decide +kernel
theorem dX11_unrule_8 : decode cX11_unrule 8 = .ok (.ifCond .ne 9, 3) := by decide +kernel
theorem dX11_unrule_11 : decode cX11_unrule 11 = .ok (.aload_n 0, 1) := by decide +kernel
theorem dX11_unrule_12 : decode cX11_unrule 12 = .ok (.iconst (-1), 1) := by decide +kernel
theorem dX11_unrule_13 : decode cX11_unrule 13 = .ok (.invokevirtual 80, 3) := by decide +kernel
theorem dX11_unrule_16 : decode cX11_unrule 16 = .ok (.ireturn, 1) := by decide +kernel
theorem dX11_unrule_17 : decode cX11_unrule 17 = .ok (.aload_n 0, 1) := by decide +kernel
theorem dX11_unrule_18 : decode cX11_unrule 18 = .ok (.getfield 12, 3) := by decide +kernel
theorem dX11_unrule_21 : decode cX11_unrule 21 = .ok (.getfield 153, 3) := by decide +kernel
theorem dX11_unrule_24 : decode cX11_unrule 24 = .ok (.iload_n 1, 1) := by decide +kernel
theorem dX11_unrule_25 : decode cX11_unrule 25 = .ok (.aaload, 1) := by decide +kernel
theorem dX11_unrule_26 : decode cX11_unrule 26 = .ok (.getfield 156, 3) := by decide +kernel
theorem dX11_unrule_29 : decode cX11_unrule 29 = .ok (.ifCond .ne 5, 3) := by decide +kernel
theorem dX11_unrule_32 : decode cX11_unrule 32 = .ok (.iconst 0, 1) := by decide +kernel
theorem dX11_unrule_33 : decode cX11_unrule 33 = .ok (.ireturn, 1) := by decide +kernel
theorem dX11_unrule_34 : decode cX11_unrule 34 = .ok (.aload_n 0, 1) := by decide +kernel
theorem dX11_unrule_35 : decode cX11_unrule 35 = .ok (.getfield 12, 3) := by decide +kernel
theorem dX11_unrule_38 : decode cX11_unrule 38 = .ok (.getfield 153, 3) := by decide +kernel
theorem dX11_unrule_41 : decode cX11_unrule 41 = .ok (.iload_n 1, 1) := by decide +kernel
theorem dX11_unrule_42 : decode cX11_unrule 42 = .ok (.aaload, 1) := by decide +kernel
theorem dX11_unrule_43 : decode cX11_unrule 43 = .ok (.iconst 0, 1) := by decide +kernel
theorem dX11_unrule_44 : decode cX11_unrule 44 = .ok (.putfield 156, 3) := by decide +kernel
theorem dX11_unrule_47 : decode cX11_unrule 47 = .ok (.iconst 1, 1) := by decide +kernel
theorem dX11_unrule_48 : decode cX11_unrule 48 = .ok (.ireturn, 1) := by decide +kernel
theorem dX11_inSet_0 : decode cX11_inSet 0 = .ok (.iload_n 1, 1) := by decide +kernel
theorem dX11_inSet_1 : decode cX11_inSet 1 = .ok (.ifCond .lt 9, 3) := by decide +kernel
theorem dX11_inSet_4 : decode cX11_inSet 4 = .ok (.iload_n 1, 1) := by decide +kernel
theorem dX11_inSet_5 : decode cX11_inSet 5 = .ok (.bipush 16, 2) := by decide +kernel
theorem dX11_inSet_7 : decode cX11_inSet 7 = .ok (.if_icmp .lt 9, 3) := by decide +kernel
theorem dX11_inSet_10 : decode cX11_inSet 10 = .ok (.aload_n 0, 1) := by decide +kernel
theorem dX11_inSet_11 : decode cX11_inSet 11 = .ok (.iconst (-1), 1) := by decide +kernel
theorem dX11_inSet_12 : decode cX11_inSet 12 = .ok (.invokevirtual 80, 3) := by decide +kernel
theorem dX11_inSet_15 : decode cX11_inSet 15 = .ok (.ireturn, 1) := by decide +kernel
theorem dX11_inSet_16 : decode cX11_inSet 16 = .ok (.aload_n 0, 1) := by decide +kernel
theorem dX11_inSet_17 : decode cX11_inSet 17 = .ok (.invokevirtual 159, 3) := by decide +kernel
theorem dX11_inSet_20 : decode cX11_inSet 20 = .ok (.iload_n 1, 1) := by decide +kernel
theorem dX11_inSet_21 : decode cX11_inSet 21 = .ok (.ishr, 1) := by decide +kernel
theorem dX11_inSet_22 : decode cX11_inSet 22 = .ok (.iconst 1, 1) := by decide +kernel
theorem dX11_inSet_23 : decode cX11_inSet 23 = .ok (.iand, 1) := by decide +kernel
theorem dX11_inSet_24 : decode cX11_inSet 24 = .ok (.ireturn, 1) := by decide +kernel
theorem dX11_later_0 : decode cX11_later 0 = .ok (.aload_n 0, 1) := by decide +kernel
theorem dX11_later_1 : decode cX11_later 1 = .ok (.getfield 12, 3) := by decide +kernel
theorem dX11_later_4 : decode cX11_later 4 = .ok (.iload_n 1, 1) := by decide +kernel
theorem dX11_later_5 : decode cX11_later 5 = .ok (.invokevirtual 163, 3) := by decide +kernel
theorem dX11_later_8 : decode cX11_later 8 = .ok (.ifCond .eq 14, 3) := by decide +kernel
theorem dX11_later_11 : decode cX11_later 11 = .ok (.aload_n 0, 1) := by decide +kernel
theorem dX11_later_12 : decode cX11_later 12 = .ok (.getfield 12, 3) := by decide +kernel
theorem dX11_later_15 : decode cX11_later 15 = .ok (.iload_n 2, 1) := by decide +kernel
theorem dX11_later_16 : decode cX11_later 16 = .ok (.invokevirtual 166, 3) := by decide +kernel
theorem dX11_later_19 : decode cX11_later 19 = .ok (.ifCond .ne 9, 3) := by decide +kernel
theorem dX11_later_22 : decode cX11_later 22 = .ok (.aload_n 0, 1) := by decide +kernel
theorem dX11_later_23 : decode cX11_later 23 = .ok (.iconst (-1), 1) := by decide +kernel
theorem dX11_later_24 : decode cX11_later 24 = .ok (.invokevirtual 80, 3) := by decide +kernel
theorem dX11_later_27 : decode cX11_later 27 = .ok (.ireturn, 1) := by decide +kernel
theorem dX11_later_28 : decode cX11_later 28 = .ok (.aload_n 0, 1) := by decide +kernel
theorem dX11_later_29 : decode cX11_later 29 = .ok (.getfield 60, 3) := by decide +kernel
theorem dX11_later_32 : decode cX11_later 32 = .ok (.iload_n 1, 1) := by decide +kernel
theorem dX11_later_33 : decode cX11_later 33 = .ok (.iload_n 2, 1) := by decide +kernel
theorem dX11_later_34 : decode cX11_later 34 = .ok (.invokevirtual 169, 3) := by decide +kernel
theorem dX11_later_37 : decode cX11_later 37 = .ok (.aload_n 0, 1) := by decide +kernel
theorem dX11_later_38 : decode cX11_later 38 = .ok (.getfield 12, 3) := by decide +kernel
theorem dX11_later_41 : decode cX11_later 41 = .ok (.iload_n 1, 1) := by decide +kernel
end
section
theorem dX11_later_42 : decode cX11_later 42 = .ok (.invokevirtual 173, 3) := by decide +kernel
theorem dX11_later_45 : decode cX11_later 45 = .ok (.isub, 1) := by decide +kernel
theorem dX11_later_46 : decode cX11_later 46 = .ok (.ireturn, 1) := by decide +kernel
theorem dX11_cost_0 : decode cX11_cost 0 = .ok (.aload_n 0, 1) := by decide +kernel
theorem dX11_cost_1 : decode cX11_cost 1 = .ok (.getfield 12, 3) := by decide +kernel
theorem dX11_cost_4 : decode cX11_cost 4 = .ok (.iload_n 1, 1) := by decide +kernel
theorem dX11_cost_5 : decode cX11_cost 5 = .ok (.invokevirtual 163, 3) := by decide +kernel
theorem dX11_cost_8 : decode cX11_cost 8 = .ok (.ifCond .eq 14, 3) := by decide +kernel
theorem dX11_cost_11 : decode cX11_cost 11 = .ok (.aload_n 0, 1) := by decide +kernel
theorem dX11_cost_12 : decode cX11_cost 12 = .ok (.getfield 12, 3) := by decide +kernel
theorem dX11_cost_15 : decode cX11_cost 15 = .ok (.iload_n 2, 1) := by decide +kernel
theorem dX11_cost_16 : decode cX11_cost 16 = .ok (.invokevirtual 166, 3) := by decide +kernel
theorem dX11_cost_19 : decode cX11_cost 19 = .ok (.ifCond .ne 9, 3) := by decide +kernel
theorem dX11_cost_22 : decode cX11_cost 22 = .ok (.aload_n 0, 1) := by decide +kernel
theorem dX11_cost_23 : decode cX11_cost 23 = .ok (.iconst (-1), 1) := by decide +kernel
theorem dX11_cost_24 : decode cX11_cost 24 = .ok (.invokevirtual 80, 3) := by decide +kernel
theorem dX11_cost_27 : decode cX11_cost 27 = .ok (.ireturn, 1) := by decide +kernel
theorem dX11_cost_28 : decode cX11_cost 28 = .ok (.aload_n 0, 1) := by decide +kernel
theorem dX11_cost_29 : decode cX11_cost 29 = .ok (.getfield 60, 3) := by decide +kernel
theorem dX11_cost_32 : decode cX11_cost 32 = .ok (.iload_n 1, 1) := by decide +kernel
theorem dX11_cost_33 : decode cX11_cost 33 = .ok (.iload_n 2, 1) := by decide +kernel
theorem dX11_cost_34 : decode cX11_cost 34 = .ok (.invokevirtual 169, 3) := by decide +kernel
theorem dX11_cost_37 : decode cX11_cost 37 = .ok (.ireturn, 1) := by decide +kernel
theorem dX11_worst_0 : decode cX11_worst 0 = .ok (.aload_n 0, 1) := by decide +kernel
theorem dX11_worst_1 : decode cX11_worst 1 = .ok (.getfield 12, 3) := by decide +kernel
theorem dX11_worst_4 : decode cX11_worst 4 = .ok (.iload_n 1, 1) := by decide +kernel
theorem dX11_worst_5 : decode cX11_worst 5 = .ok (.invokevirtual 163, 3) := by decide +kernel
theorem dX11_worst_8 : decode cX11_worst 8 = .ok (.ifCond .ne 9, 3) := by decide +kernel
theorem dX11_worst_11 : decode cX11_worst 11 = .ok (.aload_n 0, 1) := by decide +kernel
theorem dX11_worst_12 : decode cX11_worst 12 = .ok (.iconst (-1), 1) := by decide +kernel
theorem dX11_worst_13 : decode cX11_worst 13 = .ok (.invokevirtual 80, 3) := by decide +kernel
theorem dX11_worst_16 : decode cX11_worst 16 = .ok (.ireturn, 1) := by decide +kernel
theorem dX11_worst_17 : decode cX11_worst 17 = .ok (.iload_n 2, 1) := by decide +kernel
theorem dX11_worst_18 : decode cX11_worst 18 = .ok (.ifCond .eq 15, 3) := by decide +kernel
theorem dX11_worst_21 : decode cX11_worst 21 = .ok (.iload_n 2, 1) := by decide +kernel
theorem dX11_worst_22 : decode cX11_worst 22 = .ok (.iconst 1, 1) := by decide +kernel
theorem dX11_worst_23 : decode cX11_worst 23 = .ok (.if_icmp .eq 10, 3) := by decide +kernel
theorem dX11_worst_26 : decode cX11_worst 26 = .ok (.aload_n 0, 1) := by decide +kernel
theorem dX11_worst_27 : decode cX11_worst 27 = .ok (.bipush (-2), 2) := by decide +kernel
theorem dX11_worst_29 : decode cX11_worst 29 = .ok (.invokevirtual 80, 3) := by decide +kernel
theorem dX11_worst_32 : decode cX11_worst 32 = .ok (.ireturn, 1) := by decide +kernel
theorem dX11_worst_33 : decode cX11_worst 33 = .ok (.iload_n 2, 1) := by decide +kernel
theorem dX11_worst_34 : decode cX11_worst 34 = .ok (.ifCond .ne 18, 3) := by decide +kernel
theorem dX11_worst_37 : decode cX11_worst 37 = .ok (.aload_n 0, 1) := by decide +kernel
theorem dX11_worst_38 : decode cX11_worst 38 = .ok (.getfield 60, 3) := by decide +kernel
theorem dX11_worst_41 : decode cX11_worst 41 = .ok (.iload_n 1, 1) := by decide +kernel
theorem dX11_worst_42 : decode cX11_worst 42 = .ok (.aload_n 0, 1) := by decide +kernel
theorem dX11_worst_43 : decode cX11_worst 43 = .ok (.invokevirtual 159, 3) := by decide +kernel
theorem dX11_worst_46 : decode cX11_worst 46 = .ok (.invokevirtual 176, 3) := by decide +kernel
theorem dX11_worst_49 : decode cX11_worst 49 = .ok (.goto 15, 3) := by decide +kernel
theorem dX11_worst_52 : decode cX11_worst 52 = .ok (.aload_n 0, 1) := by decide +kernel
theorem dX11_worst_53 : decode cX11_worst 53 = .ok (.getfield 60, 3) := by decide +kernel
theorem dX11_worst_56 : decode cX11_worst 56 = .ok (.iload_n 1, 1) := by decide +kernel
theorem dX11_worst_57 : decode cX11_worst 57 = .ok (.aload_n 0, 1) := by decide +kernel
theorem dX11_worst_58 : decode cX11_worst 58 = .ok (.invokevirtual 159, 3) := by decide +kernel
theorem dX11_worst_61 : decode cX11_worst 61 = .ok (.invokevirtual 179, 3) := by decide +kernel
theorem dX11_worst_64 : decode cX11_worst 64 = .ok (.ireturn, 1) := by decide +kernel
theorem dX11_best_0 : decode cX11_best 0 = .ok (.iload_n 1, 1) := by decide +kernel
theorem dX11_best_1 : decode cX11_best 1 = .ok (.ifCond .eq 15, 3) := by decide +kernel
theorem dX11_best_4 : decode cX11_best 4 = .ok (.iload_n 1, 1) := by decide +kernel
theorem dX11_best_5 : decode cX11_best 5 = .ok (.iconst 1, 1) := by decide +kernel
theorem dX11_best_6 : decode cX11_best 6 = .ok (.if_icmp .eq 10, 3) := by decide +kernel
theorem dX11_best_9 : decode cX11_best 9 = .ok (.aload_n 0, 1) := by decide +kernel
theorem dX11_best_10 : decode cX11_best 10 = .ok (.bipush (-2), 2) := by decide +kernel
theorem dX11_best_12 : decode cX11_best 12 = .ok (.invokevirtual 80, 3) := by decide +kernel
theorem dX11_best_15 : decode cX11_best 15 = .ok (.ireturn, 1) := by decide +kernel
theorem dX11_best_16 : decode cX11_best 16 = .ok (.aload_n 0, 1) := by decide +kernel
theorem dX11_best_17 : decode cX11_best 17 = .ok (.getfield 60, 3) := by decide +kernel
theorem dX11_best_20 : decode cX11_best 20 = .ok (.aload_n 0, 1) := by decide +kernel
theorem dX11_best_21 : decode cX11_best 21 = .ok (.invokevirtual 159, 3) := by decide +kernel
theorem dX11_best_24 : decode cX11_best 24 = .ok (.invokevirtual 182, 3) := by decide +kernel
theorem dX11_best_27 : decode cX11_best 27 = .ok (.istore_n 2, 1) := by decide +kernel
theorem dX11_best_28 : decode cX11_best 28 = .ok (.iload_n 1, 1) := by decide +kernel
theorem dX11_best_29 : decode cX11_best 29 = .ok (.ifCond .ne 13, 3) := by decide +kernel
theorem dX11_best_32 : decode cX11_best 32 = .ok (.aload_n 0, 1) := by decide +kernel
theorem dX11_best_33 : decode cX11_best 33 = .ok (.getfield 60, 3) := by decide +kernel
theorem dX11_best_36 : decode cX11_best 36 = .ok (.getfield 185, 3) := by decide +kernel
theorem dX11_best_39 : decode cX11_best 39 = .ok (.goto 4, 3) := by decide +kernel
theorem dX11_best_42 : decode cX11_best 42 = .ok (.iload_n 2, 1) := by decide +kernel
theorem dX11_best_43 : decode cX11_best 43 = .ok (.ireturn, 1) := by decide +kernel
theorem dX11_byRules_0 : decode cX11_byRules 0 = .ok (.aload_n 0, 1) := by decide +kernel
theorem dX11_byRules_1 : decode cX11_byRules 1 = .ok (.getfield 12, 3) := by decide +kernel
theorem dX11_byRules_4 : decode cX11_byRules 4 = .ok (.iload_n 1, 1) := by decide +kernel
theorem dX11_byRules_5 : decode cX11_byRules 5 = .ok (.invokevirtual 163, 3) := by decide +kernel
theorem dX11_byRules_8 : decode cX11_byRules 8 = .ok (.ifCond .eq 14, 3) := by decide +kernel
theorem dX11_byRules_11 : decode cX11_byRules 11 = .ok (.aload_n 0, 1) := by decide +kernel
theorem dX11_byRules_12 : decode cX11_byRules 12 = .ok (.getfield 12, 3) := by decide +kernel
theorem dX11_byRules_15 : decode cX11_byRules 15 = .ok (.iload_n 2, 1) := by decide +kernel
theorem dX11_byRules_16 : decode cX11_byRules 16 = .ok (.invokevirtual 166, 3) := by decide +kernel
theorem dX11_byRules_19 : decode cX11_byRules 19 = .ok (.ifCond .ne 9, 3) := by decide +kernel
theorem dX11_byRules_22 : decode cX11_byRules 22 = .ok (.aload_n 0, 1) := by decide +kernel
theorem dX11_byRules_23 : decode cX11_byRules 23 = .ok (.iconst (-1), 1) := by decide +kernel
theorem dX11_byRules_24 : decode cX11_byRules 24 = .ok (.invokevirtual 80, 3) := by decide +kernel
theorem dX11_byRules_27 : decode cX11_byRules 27 = .ok (.ireturn, 1) := by decide +kernel
theorem dX11_byRules_28 : decode cX11_byRules 28 = .ok (.aload_n 0, 1) := by decide +kernel
theorem dX11_byRules_29 : decode cX11_byRules 29 = .ok (.getfield 53, 3) := by decide +kernel
theorem dX11_byRules_32 : decode cX11_byRules 32 = .ok (.iload_n 1, 1) := by decide +kernel
theorem dX11_byRules_33 : decode cX11_byRules 33 = .ok (.iload_n 2, 1) := by decide +kernel
theorem dX11_byRules_34 : decode cX11_byRules 34 = .ok (.invokevirtual 188, 3) := by decide +kernel
theorem dX11_byRules_37 : decode cX11_byRules 37 = .ok (.ireturn, 1) := by decide +kernel
theorem dX11_ruled_0 : decode cX11_ruled 0 = .ok (.aload_n 0, 1) := by decide +kernel
theorem dX11_ruled_1 : decode cX11_ruled 1 = .ok (.getfield 12, 3) := by decide +kernel
theorem dX11_ruled_4 : decode cX11_ruled 4 = .ok (.iload_n 1, 1) := by decide +kernel
theorem dX11_ruled_5 : decode cX11_ruled 5 = .ok (.invokevirtual 163, 3) := by decide +kernel
theorem dX11_ruled_8 : decode cX11_ruled 8 = .ok (.ifCond .ne 9, 3) := by decide +kernel
theorem dX11_ruled_11 : decode cX11_ruled 11 = .ok (.aload_n 0, 1) := by decide +kernel
theorem dX11_ruled_12 : decode cX11_ruled 12 = .ok (.iconst (-1), 1) := by decide +kernel
theorem dX11_ruled_13 : decode cX11_ruled 13 = .ok (.invokevirtual 80, 3) := by decide +kernel
theorem dX11_ruled_16 : decode cX11_ruled 16 = .ok (.ireturn, 1) := by decide +kernel
theorem dX11_ruled_17 : decode cX11_ruled 17 = .ok (.iload_n 2, 1) := by decide +kernel
theorem dX11_ruled_18 : decode cX11_ruled 18 = .ok (.ifCond .eq 15, 3) := by decide +kernel
theorem dX11_ruled_21 : decode cX11_ruled 21 = .ok (.iload_n 2, 1) := by decide +kernel
theorem dX11_ruled_22 : decode cX11_ruled 22 = .ok (.iconst 1, 1) := by decide +kernel
theorem dX11_ruled_23 : decode cX11_ruled 23 = .ok (.if_icmp .eq 10, 3) := by decide +kernel
theorem dX11_ruled_26 : decode cX11_ruled 26 = .ok (.aload_n 0, 1) := by decide +kernel
theorem dX11_ruled_27 : decode cX11_ruled 27 = .ok (.bipush (-2), 2) := by decide +kernel
theorem dX11_ruled_29 : decode cX11_ruled 29 = .ok (.invokevirtual 80, 3) := by decide +kernel
theorem dX11_ruled_32 : decode cX11_ruled 32 = .ok (.ireturn, 1) := by decide +kernel
theorem dX11_ruled_33 : decode cX11_ruled 33 = .ok (.aload_n 0, 1) := by decide +kernel
theorem dX11_ruled_34 : decode cX11_ruled 34 = .ok (.invokevirtual 159, 3) := by decide +kernel
theorem dX11_ruled_37 : decode cX11_ruled 37 = .ok (.istore_n 3, 1) := by decide +kernel
theorem dX11_ruled_38 : decode cX11_ruled 38 = .ok (.iload_n 3, 1) := by decide +kernel
theorem dX11_ruled_39 : decode cX11_ruled 39 = .ok (.ifCond .ne 6, 3) := by decide +kernel
theorem dX11_ruled_42 : decode cX11_ruled 42 = .ok (.bipush (-9), 2) := by decide +kernel
theorem dX11_ruled_44 : decode cX11_ruled 44 = .ok (.ireturn, 1) := by decide +kernel
theorem dX11_ruled_45 : decode cX11_ruled 45 = .ok (.aload_n 0, 1) := by decide +kernel
theorem dX11_ruled_46 : decode cX11_ruled 46 = .ok (.getfield 53, 3) := by decide +kernel
theorem dX11_ruled_49 : decode cX11_ruled 49 = .ok (.iload_n 1, 1) := by decide +kernel
theorem dX11_ruled_50 : decode cX11_ruled 50 = .ok (.iload_n 3, 1) := by decide +kernel
theorem dX11_ruled_51 : decode cX11_ruled 51 = .ok (.invokevirtual 191, 3) := by decide +kernel
theorem dX11_ruled_54 : decode cX11_ruled 54 = .ok (.istore 4, 2) := by decide +kernel
theorem dX11_ruled_56 : decode cX11_ruled 56 = .ok (.iload_n 2, 1) := by decide +kernel
theorem dX11_ruled_57 : decode cX11_ruled 57 = .ok (.ifCond .ne 8, 3) := by decide +kernel
theorem dX11_ruled_60 : decode cX11_ruled 60 = .ok (.iload 4, 2) := by decide +kernel
theorem dX11_ruled_62 : decode cX11_ruled 62 = .ok (.goto 15, 3) := by decide +kernel
theorem dX11_ruled_65 : decode cX11_ruled 65 = .ok (.iload 4, 2) := by decide +kernel
theorem dX11_ruled_67 : decode cX11_ruled 67 = .ok (.aload_n 0, 1) := by decide +kernel
theorem dX11_ruled_68 : decode cX11_ruled 68 = .ok (.getfield 60, 3) := by decide +kernel
theorem dX11_ruled_71 : decode cX11_ruled 71 = .ok (.iload_n 1, 1) := by decide +kernel
theorem dX11_ruled_72 : decode cX11_ruled 72 = .ok (.iload_n 3, 1) := by decide +kernel
theorem dX11_ruled_73 : decode cX11_ruled 73 = .ok (.invokevirtual 176, 3) := by decide +kernel
theorem dX11_ruled_76 : decode cX11_ruled 76 = .ok (.isub, 1) := by decide +kernel
theorem dX11_ruled_77 : decode cX11_ruled 77 = .ok (.ireturn, 1) := by decide +kernel
theorem dX11_close_0 : decode cX11_close 0 = .ok (.iload_n 2, 1) := by decide +kernel
theorem dX11_close_1 : decode cX11_close 1 = .ok (.ifCond .lt 8, 3) := by decide +kernel
theorem dX11_close_4 : decode cX11_close 4 = .ok (.iload_n 2, 1) := by decide +kernel
theorem dX11_close_5 : decode cX11_close 5 = .ok (.iconst 5, 1) := by decide +kernel
theorem dX11_close_6 : decode cX11_close 6 = .ok (.if_icmp .le 10, 3) := by decide +kernel
theorem dX11_close_9 : decode cX11_close 9 = .ok (.aload_n 0, 1) := by decide +kernel
theorem dX11_close_10 : decode cX11_close 10 = .ok (.bipush (-2), 2) := by decide +kernel
theorem dX11_close_12 : decode cX11_close 12 = .ok (.invokevirtual 80, 3) := by decide +kernel
theorem dX11_close_15 : decode cX11_close 15 = .ok (.ireturn, 1) := by decide +kernel
theorem dX11_close_16 : decode cX11_close 16 = .ok (.iload_n 1, 1) := by decide +kernel
theorem dX11_close_17 : decode cX11_close 17 = .ok (.iconst 1, 1) := by decide +kernel
theorem dX11_close_18 : decode cX11_close 18 = .ok (.if_icmp .ge 10, 3) := by decide +kernel
theorem dX11_close_21 : decode cX11_close 21 = .ok (.aload_n 0, 1) := by decide +kernel
theorem dX11_close_22 : decode cX11_close 22 = .ok (.bipush (-4), 2) := by decide +kernel
theorem dX11_close_24 : decode cX11_close 24 = .ok (.invokevirtual 80, 3) := by decide +kernel
theorem dX11_close_27 : decode cX11_close 27 = .ok (.ireturn, 1) := by decide +kernel
theorem dX11_close_28 : decode cX11_close 28 = .ok (.iload_n 1, 1) := by decide +kernel
theorem dX11_close_29 : decode cX11_close 29 = .ok (.bipush 99, 2) := by decide +kernel
theorem dX11_close_31 : decode cX11_close 31 = .ok (.if_icmp .le 10, 3) := by decide +kernel
theorem dX11_close_34 : decode cX11_close 34 = .ok (.aload_n 0, 1) := by decide +kernel
theorem dX11_close_35 : decode cX11_close 35 = .ok (.bipush (-6), 2) := by decide +kernel
theorem dX11_close_37 : decode cX11_close 37 = .ok (.invokevirtual 80, 3) := by decide +kernel
theorem dX11_close_40 : decode cX11_close 40 = .ok (.ireturn, 1) := by decide +kernel
theorem dX11_close_41 : decode cX11_close 41 = .ok (.aload_n 0, 1) := by decide +kernel
theorem dX11_close_42 : decode cX11_close 42 = .ok (.invokevirtual 159, 3) := by decide +kernel
theorem dX11_close_45 : decode cX11_close 45 = .ok (.istore_n 3, 1) := by decide +kernel
theorem dX11_close_46 : decode cX11_close 46 = .ok (.iload_n 3, 1) := by decide +kernel
theorem dX11_close_47 : decode cX11_close 47 = .ok (.ifCond .ne 6, 3) := by decide +kernel
theorem dX11_close_50 : decode cX11_close 50 = .ok (.bipush (-9), 2) := by decide +kernel
theorem dX11_close_52 : decode cX11_close 52 = .ok (.ireturn, 1) := by decide +kernel
theorem dX11_close_53 : decode cX11_close 53 = .ok (.aload_n 0, 1) := by decide +kernel
theorem dX11_close_54 : decode cX11_close 54 = .ok (.getfield 69, 3) := by decide +kernel
theorem dX11_close_57 : decode cX11_close 57 = .ok (.iload_n 1, 1) := by decide +kernel
theorem dX11_close_58 : decode cX11_close 58 = .ok (.iload_n 3, 1) := by decide +kernel
theorem dX11_close_59 : decode cX11_close 59 = .ok (.invokevirtual 192, 3) := by decide +kernel
theorem dX11_close_62 : decode cX11_close 62 = .ok (.aload_n 0, 1) := by decide +kernel
theorem dX11_close_63 : decode cX11_close 63 = .ok (.getfield 69, 3) := by decide +kernel
theorem dX11_close_66 : decode cX11_close 66 = .ok (.iload_n 2, 1) := by decide +kernel
theorem dX11_close_67 : decode cX11_close 67 = .ok (.invokevirtual 196, 3) := by decide +kernel
theorem dX11_close_70 : decode cX11_close 70 = .ok (.ireturn, 1) := by decide +kernel
theorem dX11_put_0 : decode cX11_put 0 = .ok (.aload_n 0, 1) := by decide +kernel
theorem dX11_put_1 : decode cX11_put 1 = .ok (.getfield 41, 3) := by decide +kernel
theorem dX11_put_4 : decode cX11_put 4 = .ok (.bipush 12, 2) := by decide +kernel
theorem dX11_put_6 : decode cX11_put 6 = .ok (.if_icmp .lt 10, 3) := by decide +kernel
theorem dX11_put_9 : decode cX11_put 9 = .ok (.aload_n 0, 1) := by decide +kernel
theorem dX11_put_10 : decode cX11_put 10 = .ok (.bipush (-6), 2) := by decide +kernel
theorem dX11_put_12 : decode cX11_put 12 = .ok (.invokevirtual 80, 3) := by decide +kernel
theorem dX11_put_15 : decode cX11_put 15 = .ok (.ireturn, 1) := by decide +kernel
theorem dX11_put_16 : decode cX11_put 16 = .ok (.aload_n 0, 1) := by decide +kernel
theorem dX11_put_17 : decode cX11_put 17 = .ok (.getfield 37, 3) := by decide +kernel
theorem dX11_put_20 : decode cX11_put 20 = .ok (.aload_n 0, 1) := by decide +kernel
theorem dX11_put_21 : decode cX11_put 21 = .ok (.getfield 41, 3) := by decide +kernel
theorem dX11_put_24 : decode cX11_put 24 = .ok (.iload_n 1, 1) := by decide +kernel
theorem dX11_put_25 : decode cX11_put 25 = .ok (.iastore, 1) := by decide +kernel
theorem dX11_put_26 : decode cX11_put 26 = .ok (.aload_n 0, 1) := by decide +kernel
theorem dX11_put_27 : decode cX11_put 27 = .ok (.dup, 1) := by decide +kernel
theorem dX11_put_28 : decode cX11_put 28 = .ok (.getfield 41, 3) := by decide +kernel
theorem dX11_put_31 : decode cX11_put 31 = .ok (.iconst 1, 1) := by decide +kernel
theorem dX11_put_32 : decode cX11_put 32 = .ok (.iadd, 1) := by decide +kernel
theorem dX11_put_33 : decode cX11_put 33 = .ok (.putfield 41, 3) := by decide +kernel
theorem dX11_put_36 : decode cX11_put 36 = .ok (.aload_n 0, 1) := by decide +kernel
theorem dX11_put_37 : decode cX11_put 37 = .ok (.getfield 41, 3) := by decide +kernel
theorem dX11_put_40 : decode cX11_put 40 = .ok (.ireturn, 1) := by decide +kernel
theorem dX11_prove_0 : decode cX11_prove 0 = .ok (.aload_n 0, 1) := by decide +kernel
theorem dX11_prove_1 : decode cX11_prove 1 = .ok (.getfield 12, 3) := by decide +kernel
theorem dX11_prove_4 : decode cX11_prove 4 = .ok (.iload_n 1, 1) := by decide +kernel
theorem dX11_prove_5 : decode cX11_prove 5 = .ok (.invokevirtual 163, 3) := by decide +kernel
theorem dX11_prove_8 : decode cX11_prove 8 = .ok (.ifCond .eq 14, 3) := by decide +kernel
theorem dX11_prove_11 : decode cX11_prove 11 = .ok (.aload_n 0, 1) := by decide +kernel
theorem dX11_prove_12 : decode cX11_prove 12 = .ok (.getfield 12, 3) := by decide +kernel
theorem dX11_prove_15 : decode cX11_prove 15 = .ok (.iload_n 2, 1) := by decide +kernel
theorem dX11_prove_16 : decode cX11_prove 16 = .ok (.invokevirtual 166, 3) := by decide +kernel
theorem dX11_prove_19 : decode cX11_prove 19 = .ok (.ifCond .ne 9, 3) := by decide +kernel
theorem dX11_prove_22 : decode cX11_prove 22 = .ok (.aload_n 0, 1) := by decide +kernel
theorem dX11_prove_23 : decode cX11_prove 23 = .ok (.iconst (-1), 1) := by decide +kernel
theorem dX11_prove_24 : decode cX11_prove 24 = .ok (.invokevirtual 80, 3) := by decide +kernel
theorem dX11_prove_27 : decode cX11_prove 27 = .ok (.ireturn, 1) := by decide +kernel
theorem dX11_prove_28 : decode cX11_prove 28 = .ok (.aload_n 0, 1) := by decide +kernel
theorem dX11_prove_29 : decode cX11_prove 29 = .ok (.getfield 41, 3) := by decide +kernel
theorem dX11_prove_32 : decode cX11_prove 32 = .ok (.bipush 12, 2) := by decide +kernel
theorem dX11_prove_34 : decode cX11_prove 34 = .ok (.if_icmp .eq 10, 3) := by decide +kernel
theorem dX11_prove_37 : decode cX11_prove 37 = .ok (.aload_n 0, 1) := by decide +kernel
theorem dX11_prove_38 : decode cX11_prove 38 = .ok (.bipush (-3), 2) := by decide +kernel
theorem dX11_prove_40 : decode cX11_prove 40 = .ok (.invokevirtual 80, 3) := by decide +kernel
theorem dX11_prove_43 : decode cX11_prove 43 = .ok (.ireturn, 1) := by decide +kernel
theorem dX11_prove_44 : decode cX11_prove 44 = .ok (.aload_n 0, 1) := by decide +kernel
theorem dX11_prove_45 : decode cX11_prove 45 = .ok (.iconst 0, 1) := by decide +kernel
theorem dX11_prove_46 : decode cX11_prove 46 = .ok (.putfield 41, 3) := by decide +kernel
theorem dX11_prove_49 : decode cX11_prove 49 = .ok (.aload_n 0, 1) := by decide +kernel
theorem dX11_prove_50 : decode cX11_prove 50 = .ok (.getfield 37, 3) := by decide +kernel
theorem dX11_prove_53 : decode cX11_prove 53 = .ok (.aload_n 0, 1) := by decide +kernel
theorem dX11_prove_54 : decode cX11_prove 54 = .ok (.getfield 12, 3) := by decide +kernel
theorem dX11_prove_57 : decode cX11_prove 57 = .ok (.iload_n 1, 1) := by decide +kernel
theorem dX11_prove_58 : decode cX11_prove 58 = .ok (.iload_n 2, 1) := by decide +kernel
theorem dX11_prove_59 : decode cX11_prove 59 = .ok (.invokestatic 199, 3) := by decide +kernel
theorem dX11_prove_62 : decode cX11_prove 62 = .ok (.istore_n 3, 1) := by decide +kernel
theorem dX11_prove_63 : decode cX11_prove 63 = .ok (.iload_n 3, 1) := by decide +kernel
theorem dX11_prove_64 : decode cX11_prove 64 = .ok (.ifCond .lt 11, 3) := by decide +kernel
theorem dX11_prove_67 : decode cX11_prove 67 = .ok (.sipush (-1000), 3) := by decide +kernel
theorem dX11_prove_70 : decode cX11_prove 70 = .ok (.iload_n 3, 1) := by decide +kernel
theorem dX11_prove_71 : decode cX11_prove 71 = .ok (.isub, 1) := by decide +kernel
theorem dX11_prove_72 : decode cX11_prove 72 = .ok (.goto 16, 3) := by decide +kernel
theorem dX11_prove_75 : decode cX11_prove 75 = .ok (.aload_n 0, 1) := by decide +kernel
theorem dX11_prove_76 : decode cX11_prove 76 = .ok (.getfield 37, 3) := by decide +kernel
theorem dX11_prove_79 : decode cX11_prove 79 = .ok (.aload_n 0, 1) := by decide +kernel
theorem dX11_prove_80 : decode cX11_prove 80 = .ok (.getfield 12, 3) := by decide +kernel
theorem dX11_prove_83 : decode cX11_prove 83 = .ok (.iload_n 1, 1) := by decide +kernel
theorem dX11_prove_84 : decode cX11_prove 84 = .ok (.iload_n 2, 1) := by decide +kernel
theorem dX11_prove_85 : decode cX11_prove 85 = .ok (.invokestatic 205, 3) := by decide +kernel
theorem dX11_prove_88 : decode cX11_prove 88 = .ok (.ireturn, 1) := by decide +kernel
theorem dX11_promise_0 : decode cX11_promise 0 = .ok (.aload_n 0, 1) := by decide +kernel
theorem dX11_promise_1 : decode cX11_promise 1 = .ok (.getfield 12, 3) := by decide +kernel
theorem dX11_promise_4 : decode cX11_promise 4 = .ok (.iload_n 1, 1) := by decide +kernel
theorem dX11_promise_5 : decode cX11_promise 5 = .ok (.invokevirtual 163, 3) := by decide +kernel
theorem dX11_promise_8 : decode cX11_promise 8 = .ok (.ifCond .eq 14, 3) := by decide +kernel
theorem dX11_promise_11 : decode cX11_promise 11 = .ok (.aload_n 0, 1) := by decide +kernel
theorem dX11_promise_12 : decode cX11_promise 12 = .ok (.getfield 12, 3) := by decide +kernel
theorem dX11_promise_15 : decode cX11_promise 15 = .ok (.iload_n 3, 1) := by decide +kernel
theorem dX11_promise_16 : decode cX11_promise 16 = .ok (.invokevirtual 166, 3) := by decide +kernel
theorem dX11_promise_19 : decode cX11_promise 19 = .ok (.ifCond .ne 9, 3) := by decide +kernel
theorem dX11_promise_22 : decode cX11_promise 22 = .ok (.aload_n 0, 1) := by decide +kernel
theorem dX11_promise_23 : decode cX11_promise 23 = .ok (.iconst (-1), 1) := by decide +kernel
theorem dX11_promise_24 : decode cX11_promise 24 = .ok (.invokevirtual 80, 3) := by decide +kernel
theorem dX11_promise_27 : decode cX11_promise 27 = .ok (.ireturn, 1) := by decide +kernel
theorem dX11_promise_28 : decode cX11_promise 28 = .ok (.iload_n 2, 1) := by decide +kernel
theorem dX11_promise_29 : decode cX11_promise 29 = .ok (.ifCond .ge 10, 3) := by decide +kernel
theorem dX11_promise_32 : decode cX11_promise 32 = .ok (.aload_n 0, 1) := by decide +kernel
theorem dX11_promise_33 : decode cX11_promise 33 = .ok (.bipush (-4), 2) := by decide +kernel
theorem dX11_promise_35 : decode cX11_promise 35 = .ok (.invokevirtual 80, 3) := by decide +kernel
theorem dX11_promise_38 : decode cX11_promise 38 = .ok (.ireturn, 1) := by decide +kernel
theorem dX11_promise_39 : decode cX11_promise 39 = .ok (.iload_n 2, 1) := by decide +kernel
theorem dX11_promise_40 : decode cX11_promise 40 = .ok (.bipush 9, 2) := by decide +kernel
theorem dX11_promise_42 : decode cX11_promise 42 = .ok (.if_icmp .le 10, 3) := by decide +kernel
theorem dX11_promise_45 : decode cX11_promise 45 = .ok (.aload_n 0, 1) := by decide +kernel
theorem dX11_promise_46 : decode cX11_promise 46 = .ok (.bipush (-6), 2) := by decide +kernel
theorem dX11_promise_48 : decode cX11_promise 48 = .ok (.invokevirtual 80, 3) := by decide +kernel
theorem dX11_promise_51 : decode cX11_promise 51 = .ok (.ireturn, 1) := by decide +kernel
theorem dX11_promise_52 : decode cX11_promise 52 = .ok (.aload_n 0, 1) := by decide +kernel
theorem dX11_promise_53 : decode cX11_promise 53 = .ok (.getfield 60, 3) := by decide +kernel
theorem dX11_promise_56 : decode cX11_promise 56 = .ok (.iload_n 1, 1) := by decide +kernel
theorem dX11_promise_57 : decode cX11_promise 57 = .ok (.aload_n 0, 1) := by decide +kernel
theorem dX11_promise_58 : decode cX11_promise 58 = .ok (.invokevirtual 159, 3) := by decide +kernel
theorem dX11_promise_61 : decode cX11_promise 61 = .ok (.iload_n 3, 1) := by decide +kernel
theorem dX11_promise_62 : decode cX11_promise 62 = .ok (.aload_n 0, 1) := by decide +kernel
theorem dX11_promise_63 : decode cX11_promise 63 = .ok (.getfield 12, 3) := by decide +kernel
theorem dX11_promise_66 : decode cX11_promise 66 = .ok (.iload_n 2, 1) := by decide +kernel
theorem dX11_promise_67 : decode cX11_promise 67 = .ok (.invokevirtual 142, 3) := by decide +kernel
theorem dX11_promise_70 : decode cX11_promise 70 = .ok (.invokestatic 208, 3) := by decide +kernel
theorem dX11_promise_73 : decode cX11_promise 73 = .ok (.invokevirtual 176, 3) := by decide +kernel
theorem dX11_promise_76 : decode cX11_promise 76 = .ok (.ireturn, 1) := by decide +kernel
theorem dX11_corner_0 : decode cX11_corner 0 = .ok (.iload_n 1, 1) := by decide +kernel
theorem dX11_corner_1 : decode cX11_corner 1 = .ok (.ifCond .ge 10, 3) := by decide +kernel
theorem dX11_corner_4 : decode cX11_corner 4 = .ok (.aload_n 0, 1) := by decide +kernel
theorem dX11_corner_5 : decode cX11_corner 5 = .ok (.bipush (-4), 2) := by decide +kernel
theorem dX11_corner_7 : decode cX11_corner 7 = .ok (.invokevirtual 80, 3) := by decide +kernel
theorem dX11_corner_10 : decode cX11_corner 10 = .ok (.ireturn, 1) := by decide +kernel
theorem dX11_corner_11 : decode cX11_corner 11 = .ok (.iload_n 1, 1) := by decide +kernel
theorem dX11_corner_12 : decode cX11_corner 12 = .ok (.iconst 4, 1) := by decide +kernel
theorem dX11_corner_13 : decode cX11_corner 13 = .ok (.if_icmp .le 10, 3) := by decide +kernel
theorem dX11_corner_16 : decode cX11_corner 16 = .ok (.aload_n 0, 1) := by decide +kernel
theorem dX11_corner_17 : decode cX11_corner 17 = .ok (.bipush (-6), 2) := by decide +kernel
theorem dX11_corner_19 : decode cX11_corner 19 = .ok (.invokevirtual 80, 3) := by decide +kernel
theorem dX11_corner_22 : decode cX11_corner 22 = .ok (.ireturn, 1) := by decide +kernel
theorem dX11_corner_23 : decode cX11_corner 23 = .ok (.aload_n 0, 1) := by decide +kernel
theorem dX11_corner_24 : decode cX11_corner 24 = .ok (.getfield 60, 3) := by decide +kernel
theorem dX11_corner_27 : decode cX11_corner 27 = .ok (.aload_n 0, 1) := by decide +kernel
theorem dX11_corner_28 : decode cX11_corner 28 = .ok (.getfield 12, 3) := by decide +kernel
theorem dX11_corner_31 : decode cX11_corner 31 = .ok (.iload_n 1, 1) := by decide +kernel
theorem dX11_corner_32 : decode cX11_corner 32 = .ok (.invokevirtual 212, 3) := by decide +kernel
theorem dX11_corner_35 : decode cX11_corner 35 = .ok (.invokevirtual 182, 3) := by decide +kernel
theorem dX11_corner_38 : decode cX11_corner 38 = .ok (.ireturn, 1) := by decide +kernel
theorem dX11_flat_0 : decode cX11_flat 0 = .ok (.aload_n 0, 1) := by decide +kernel
theorem dX11_flat_1 : decode cX11_flat 1 = .ok (.getfield 12, 3) := by decide +kernel
theorem dX11_flat_4 : decode cX11_flat 4 = .ok (.iconst 0, 1) := by decide +kernel
theorem dX11_flat_5 : decode cX11_flat 5 = .ok (.invokevirtual 212, 3) := by decide +kernel
theorem dX11_flat_8 : decode cX11_flat 8 = .ok (.istore_n 1, 1) := by decide +kernel
theorem dX11_flat_9 : decode cX11_flat 9 = .ok (.aload_n 0, 1) := by decide +kernel
theorem dX11_flat_10 : decode cX11_flat 10 = .ok (.getfield 60, 3) := by decide +kernel
theorem dX11_flat_13 : decode cX11_flat 13 = .ok (.aload_n 0, 1) := by decide +kernel
theorem dX11_flat_14 : decode cX11_flat 14 = .ok (.invokevirtual 159, 3) := by decide +kernel
theorem dX11_flat_17 : decode cX11_flat 17 = .ok (.invokevirtual 182, 3) := by decide +kernel
theorem dX11_flat_20 : decode cX11_flat 20 = .ok (.bipush (-9), 2) := by decide +kernel
theorem dX11_flat_22 : decode cX11_flat 22 = .ok (.if_icmp .eq 7, 3) := by decide +kernel
theorem dX11_flat_25 : decode cX11_flat 25 = .ok (.iload_n 1, 1) := by decide +kernel
theorem dX11_flat_26 : decode cX11_flat 26 = .ok (.ifCond .ne 6, 3) := by decide +kernel
theorem dX11_flat_29 : decode cX11_flat 29 = .ok (.bipush (-9), 2) := by decide +kernel
theorem dX11_flat_31 : decode cX11_flat 31 = .ok (.ireturn, 1) := by decide +kernel
theorem dX11_flat_32 : decode cX11_flat 32 = .ok (.aload_n 0, 1) := by decide +kernel
theorem dX11_flat_33 : decode cX11_flat 33 = .ok (.getfield 60, 3) := by decide +kernel
theorem dX11_flat_36 : decode cX11_flat 36 = .ok (.getfield 185, 3) := by decide +kernel
theorem dX11_flat_39 : decode cX11_flat 39 = .ok (.istore_n 2, 1) := by decide +kernel
theorem dX11_flat_40 : decode cX11_flat 40 = .ok (.aload_n 0, 1) := by decide +kernel
theorem dX11_flat_41 : decode cX11_flat 41 = .ok (.getfield 60, 3) := by decide +kernel
theorem dX11_flat_44 : decode cX11_flat 44 = .ok (.iload_n 2, 1) := by decide +kernel
theorem dX11_flat_45 : decode cX11_flat 45 = .ok (.iload_n 1, 1) := by decide +kernel
theorem dX11_flat_46 : decode cX11_flat 46 = .ok (.invokevirtual 176, 3) := by decide +kernel
theorem dX11_flat_49 : decode cX11_flat 49 = .ok (.istore_n 3, 1) := by decide +kernel
theorem dX11_flat_50 : decode cX11_flat 50 = .ok (.iconst 0, 1) := by decide +kernel
theorem dX11_flat_51 : decode cX11_flat 51 = .ok (.istore 4, 2) := by decide +kernel
theorem dX11_flat_53 : decode cX11_flat 53 = .ok (.iconst 1, 1) := by decide +kernel
theorem dX11_flat_54 : decode cX11_flat 54 = .ok (.istore 5, 2) := by decide +kernel
theorem dX11_flat_56 : decode cX11_flat 56 = .ok (.iload 5, 2) := by decide +kernel
theorem dX11_flat_58 : decode cX11_flat 58 = .ok (.iconst 4, 1) := by decide +kernel
theorem dX11_flat_59 : decode cX11_flat 59 = .ok (.if_icmp .gt 34, 3) := by decide +kernel
theorem dX11_flat_62 : decode cX11_flat 62 = .ok (.aload_n 0, 1) := by decide +kernel
theorem dX11_flat_63 : decode cX11_flat 63 = .ok (.getfield 60, 3) := by decide +kernel
theorem dX11_flat_66 : decode cX11_flat 66 = .ok (.iload_n 2, 1) := by decide +kernel
theorem dX11_flat_67 : decode cX11_flat 67 = .ok (.aload_n 0, 1) := by decide +kernel
theorem dX11_flat_68 : decode cX11_flat 68 = .ok (.getfield 12, 3) := by decide +kernel
theorem dX11_flat_71 : decode cX11_flat 71 = .ok (.iload 5, 2) := by decide +kernel
theorem dX11_flat_73 : decode cX11_flat 73 = .ok (.invokevirtual 212, 3) := by decide +kernel
theorem dX11_flat_76 : decode cX11_flat 76 = .ok (.invokevirtual 176, 3) := by decide +kernel
theorem dX11_flat_79 : decode cX11_flat 79 = .ok (.iload_n 3, 1) := by decide +kernel
theorem dX11_flat_80 : decode cX11_flat 80 = .ok (.if_icmp .ne 7, 3) := by decide +kernel
theorem dX11_flat_83 : decode cX11_flat 83 = .ok (.iload 5, 2) := by decide +kernel
theorem dX11_flat_85 : decode cX11_flat 85 = .ok (.istore 4, 2) := by decide +kernel
theorem dX11_flat_87 : decode cX11_flat 87 = .ok (.iinc 5 1, 3) := by decide +kernel
theorem dX11_flat_90 : decode cX11_flat 90 = .ok (.goto (-34), 3) := by decide +kernel
theorem dX11_flat_93 : decode cX11_flat 93 = .ok (.iload 4, 2) := by decide +kernel
theorem dX11_flat_95 : decode cX11_flat 95 = .ok (.ireturn, 1) := by decide +kernel
theorem dX11_foreknown_0 : decode cX11_foreknown 0 = .ok (.aload_n 0, 1) := by decide +kernel
theorem dX11_foreknown_1 : decode cX11_foreknown 1 = .ok (.getfield 12, 3) := by decide +kernel
theorem dX11_foreknown_4 : decode cX11_foreknown 4 = .ok (.iload_n 1, 1) := by decide +kernel
theorem dX11_foreknown_5 : decode cX11_foreknown 5 = .ok (.invokevirtual 84, 3) := by decide +kernel
theorem dX11_foreknown_8 : decode cX11_foreknown 8 = .ok (.ifCond .ne 9, 3) := by decide +kernel
theorem dX11_foreknown_11 : decode cX11_foreknown 11 = .ok (.aload_n 0, 1) := by decide +kernel
theorem dX11_foreknown_12 : decode cX11_foreknown 12 = .ok (.iconst (-1), 1) := by decide +kernel
theorem dX11_foreknown_13 : decode cX11_foreknown 13 = .ok (.invokevirtual 80, 3) := by decide +kernel
theorem dX11_foreknown_16 : decode cX11_foreknown 16 = .ok (.ireturn, 1) := by decide +kernel
theorem dX11_foreknown_17 : decode cX11_foreknown 17 = .ok (.iload_n 2, 1) := by decide +kernel
theorem dX11_foreknown_18 : decode cX11_foreknown 18 = .ok (.ifCond .eq 15, 3) := by decide +kernel
theorem dX11_foreknown_21 : decode cX11_foreknown 21 = .ok (.iload_n 2, 1) := by decide +kernel
theorem dX11_foreknown_22 : decode cX11_foreknown 22 = .ok (.iconst 1, 1) := by decide +kernel
theorem dX11_foreknown_23 : decode cX11_foreknown 23 = .ok (.if_icmp .eq 10, 3) := by decide +kernel
theorem dX11_foreknown_26 : decode cX11_foreknown 26 = .ok (.aload_n 0, 1) := by decide +kernel
theorem dX11_foreknown_27 : decode cX11_foreknown 27 = .ok (.bipush (-2), 2) := by decide +kernel
theorem dX11_foreknown_29 : decode cX11_foreknown 29 = .ok (.invokevirtual 80, 3) := by decide +kernel
theorem dX11_foreknown_32 : decode cX11_foreknown 32 = .ok (.ireturn, 1) := by decide +kernel
theorem dX11_foreknown_33 : decode cX11_foreknown 33 = .ok (.aload_n 0, 1) := by decide +kernel
theorem dX11_foreknown_34 : decode cX11_foreknown 34 = .ok (.invokevirtual 159, 3) := by decide +kernel
theorem dX11_foreknown_37 : decode cX11_foreknown 37 = .ok (.istore_n 3, 1) := by decide +kernel
theorem dX11_foreknown_38 : decode cX11_foreknown 38 = .ok (.iload_n 3, 1) := by decide +kernel
theorem dX11_foreknown_39 : decode cX11_foreknown 39 = .ok (.ifCond .ne 6, 3) := by decide +kernel
theorem dX11_foreknown_42 : decode cX11_foreknown 42 = .ok (.bipush (-9), 2) := by decide +kernel
theorem dX11_foreknown_44 : decode cX11_foreknown 44 = .ok (.ireturn, 1) := by decide +kernel
theorem dX11_foreknown_45 : decode cX11_foreknown 45 = .ok (.aload_n 0, 1) := by decide +kernel
theorem dX11_foreknown_46 : decode cX11_foreknown 46 = .ok (.iload_n 1, 1) := by decide +kernel
theorem dX11_foreknown_47 : decode cX11_foreknown 47 = .ok (.iload_n 3, 1) := by decide +kernel
theorem dX11_foreknown_48 : decode cX11_foreknown 48 = .ok (.invokevirtual 215, 3) := by decide +kernel
theorem dX11_foreknown_51 : decode cX11_foreknown 51 = .ok (.istore 4, 2) := by decide +kernel
theorem dX11_foreknown_53 : decode cX11_foreknown 53 = .ok (.iload_n 2, 1) := by decide +kernel
theorem dX11_foreknown_54 : decode cX11_foreknown 54 = .ok (.ifCond .ne 8, 3) := by decide +kernel
theorem dX11_foreknown_57 : decode cX11_foreknown 57 = .ok (.iload 4, 2) := by decide +kernel
theorem dX11_foreknown_59 : decode cX11_foreknown 59 = .ok (.goto 14, 3) := by decide +kernel
theorem dX11_foreknown_62 : decode cX11_foreknown 62 = .ok (.aload_n 0, 1) := by decide +kernel
theorem dX11_foreknown_63 : decode cX11_foreknown 63 = .ok (.getfield 60, 3) := by decide +kernel
theorem dX11_foreknown_66 : decode cX11_foreknown 66 = .ok (.iload_n 3, 1) := by decide +kernel
theorem dX11_foreknown_67 : decode cX11_foreknown 67 = .ok (.invokevirtual 182, 3) := by decide +kernel
theorem dX11_foreknown_70 : decode cX11_foreknown 70 = .ok (.iload 4, 2) := by decide +kernel
theorem dX11_foreknown_72 : decode cX11_foreknown 72 = .ok (.isub, 1) := by decide +kernel
theorem dX11_foreknown_73 : decode cX11_foreknown 73 = .ok (.ireturn, 1) := by decide +kernel
theorem dX11_dearest_0 : decode cX11_dearest 0 = .ok (.aload_n 0, 1) := by decide +kernel
theorem dX11_dearest_1 : decode cX11_dearest 1 = .ok (.invokevirtual 159, 3) := by decide +kernel
theorem dX11_dearest_4 : decode cX11_dearest 4 = .ok (.istore_n 1, 1) := by decide +kernel
theorem dX11_dearest_5 : decode cX11_dearest 5 = .ok (.iload_n 1, 1) := by decide +kernel
theorem dX11_dearest_6 : decode cX11_dearest 6 = .ok (.ifCond .ne 6, 3) := by decide +kernel
theorem dX11_dearest_9 : decode cX11_dearest 9 = .ok (.bipush (-9), 2) := by decide +kernel
theorem dX11_dearest_11 : decode cX11_dearest 11 = .ok (.ireturn, 1) := by decide +kernel
theorem dX11_dearest_12 : decode cX11_dearest 12 = .ok (.bipush (-9), 2) := by decide +kernel
theorem dX11_dearest_14 : decode cX11_dearest 14 = .ok (.istore_n 2, 1) := by decide +kernel
theorem dX11_dearest_15 : decode cX11_dearest 15 = .ok (.iconst 0, 1) := by decide +kernel
theorem dX11_dearest_16 : decode cX11_dearest 16 = .ok (.istore_n 3, 1) := by decide +kernel
theorem dX11_dearest_17 : decode cX11_dearest 17 = .ok (.iconst 0, 1) := by decide +kernel
theorem dX11_dearest_18 : decode cX11_dearest 18 = .ok (.istore 4, 2) := by decide +kernel
theorem dX11_dearest_20 : decode cX11_dearest 20 = .ok (.iload 4, 2) := by decide +kernel
theorem dX11_dearest_22 : decode cX11_dearest 22 = .ok (.iconst 4, 1) := by decide +kernel
theorem dX11_dearest_23 : decode cX11_dearest 23 = .ok (.if_icmp .ge 51, 3) := by decide +kernel
theorem dX11_dearest_26 : decode cX11_dearest 26 = .ok (.aload_n 0, 1) := by decide +kernel
theorem dX11_dearest_27 : decode cX11_dearest 27 = .ok (.getfield 12, 3) := by decide +kernel
theorem dX11_dearest_30 : decode cX11_dearest 30 = .ok (.iload 4, 2) := by decide +kernel
theorem dX11_dearest_32 : decode cX11_dearest 32 = .ok (.invokevirtual 84, 3) := by decide +kernel
theorem dX11_dearest_35 : decode cX11_dearest 35 = .ok (.ifCond .ne 6, 3) := by decide +kernel
theorem dX11_dearest_38 : decode cX11_dearest 38 = .ok (.goto 30, 3) := by decide +kernel
theorem dX11_dearest_41 : decode cX11_dearest 41 = .ok (.aload_n 0, 1) := by decide +kernel
theorem dX11_dearest_42 : decode cX11_dearest 42 = .ok (.iload 4, 2) := by decide +kernel
theorem dX11_dearest_44 : decode cX11_dearest 44 = .ok (.iload_n 1, 1) := by decide +kernel
theorem dX11_dearest_45 : decode cX11_dearest 45 = .ok (.invokevirtual 215, 3) := by decide +kernel
theorem dX11_dearest_48 : decode cX11_dearest 48 = .ok (.istore 5, 2) := by decide +kernel
theorem dX11_dearest_50 : decode cX11_dearest 50 = .ok (.iload_n 2, 1) := by decide +kernel
theorem dX11_dearest_51 : decode cX11_dearest 51 = .ok (.bipush (-9), 2) := by decide +kernel
theorem dX11_dearest_53 : decode cX11_dearest 53 = .ok (.if_icmp .eq 9, 3) := by decide +kernel
theorem dX11_dearest_56 : decode cX11_dearest 56 = .ok (.iload 5, 2) := by decide +kernel
theorem dX11_dearest_58 : decode cX11_dearest 58 = .ok (.iload_n 3, 1) := by decide +kernel
theorem dX11_dearest_59 : decode cX11_dearest 59 = .ok (.if_icmp .ge 9, 3) := by decide +kernel
theorem dX11_dearest_62 : decode cX11_dearest 62 = .ok (.iload 4, 2) := by decide +kernel
theorem dX11_dearest_64 : decode cX11_dearest 64 = .ok (.istore_n 2, 1) := by decide +kernel
theorem dX11_dearest_65 : decode cX11_dearest 65 = .ok (.iload 5, 2) := by decide +kernel
theorem dX11_dearest_67 : decode cX11_dearest 67 = .ok (.istore_n 3, 1) := by decide +kernel
theorem dX11_dearest_68 : decode cX11_dearest 68 = .ok (.iinc 4 1, 3) := by decide +kernel
theorem dX11_dearest_71 : decode cX11_dearest 71 = .ok (.goto (-51), 3) := by decide +kernel
theorem dX11_dearest_74 : decode cX11_dearest 74 = .ok (.iload_n 2, 1) := by decide +kernel
theorem dX11_dearest_75 : decode cX11_dearest 75 = .ok (.ireturn, 1) := by decide +kernel
theorem dX11_who_0 : decode cX11_who 0 = .ok (.aload_n 0, 1) := by decide +kernel
theorem dX11_who_1 : decode cX11_who 1 = .ok (.getfield 12, 3) := by decide +kernel
theorem dX11_who_4 : decode cX11_who 4 = .ok (.iload_n 1, 1) := by decide +kernel
theorem dX11_who_5 : decode cX11_who 5 = .ok (.invokevirtual 163, 3) := by decide +kernel
theorem dX11_who_8 : decode cX11_who 8 = .ok (.ifCond .ne 9, 3) := by decide +kernel
theorem dX11_who_11 : decode cX11_who 11 = .ok (.aload_n 0, 1) := by decide +kernel
theorem dX11_who_12 : decode cX11_who 12 = .ok (.iconst (-1), 1) := by decide +kernel
theorem dX11_who_13 : decode cX11_who 13 = .ok (.invokevirtual 80, 3) := by decide +kernel
theorem dX11_who_16 : decode cX11_who 16 = .ok (.ireturn, 1) := by decide +kernel
theorem dX11_who_17 : decode cX11_who 17 = .ok (.iload_n 2, 1) := by decide +kernel
theorem dX11_who_18 : decode cX11_who 18 = .ok (.ifCond .eq 15, 3) := by decide +kernel
theorem dX11_who_21 : decode cX11_who 21 = .ok (.iload_n 2, 1) := by decide +kernel
theorem dX11_who_22 : decode cX11_who 22 = .ok (.iconst 1, 1) := by decide +kernel
theorem dX11_who_23 : decode cX11_who 23 = .ok (.if_icmp .eq 10, 3) := by decide +kernel
theorem dX11_who_26 : decode cX11_who 26 = .ok (.aload_n 0, 1) := by decide +kernel
theorem dX11_who_27 : decode cX11_who 27 = .ok (.bipush (-2), 2) := by decide +kernel
theorem dX11_who_29 : decode cX11_who 29 = .ok (.invokevirtual 80, 3) := by decide +kernel
theorem dX11_who_32 : decode cX11_who 32 = .ok (.ireturn, 1) := by decide +kernel
theorem dX11_who_33 : decode cX11_who 33 = .ok (.aload_n 0, 1) := by decide +kernel
theorem dX11_who_34 : decode cX11_who 34 = .ok (.invokevirtual 159, 3) := by decide +kernel
theorem dX11_who_37 : decode cX11_who 37 = .ok (.istore_n 3, 1) := by decide +kernel
theorem dX11_who_38 : decode cX11_who 38 = .ok (.iload_n 3, 1) := by decide +kernel
theorem dX11_who_39 : decode cX11_who 39 = .ok (.ifCond .ne 6, 3) := by decide +kernel
theorem dX11_who_42 : decode cX11_who 42 = .ok (.bipush (-9), 2) := by decide +kernel
theorem dX11_who_44 : decode cX11_who 44 = .ok (.ireturn, 1) := by decide +kernel
theorem dX11_who_45 : decode cX11_who 45 = .ok (.bipush (-9), 2) := by decide +kernel
theorem dX11_who_47 : decode cX11_who 47 = .ok (.istore 4, 2) := by decide +kernel
theorem dX11_who_49 : decode cX11_who 49 = .ok (.bipush (-9), 2) := by decide +kernel
theorem dX11_who_51 : decode cX11_who 51 = .ok (.istore 5, 2) := by decide +kernel
theorem dX11_who_53 : decode cX11_who 53 = .ok (.iconst 0, 1) := by decide +kernel
theorem dX11_who_54 : decode cX11_who 54 = .ok (.istore 6, 2) := by decide +kernel
theorem dX11_who_56 : decode cX11_who 56 = .ok (.iload 6, 2) := by decide +kernel
theorem dX11_who_58 : decode cX11_who 58 = .ok (.iconst 4, 1) := by decide +kernel
theorem dX11_who_59 : decode cX11_who 59 = .ok (.if_icmp .ge 52, 3) := by decide +kernel
theorem dX11_who_62 : decode cX11_who 62 = .ok (.aload_n 0, 1) := by decide +kernel
theorem dX11_who_63 : decode cX11_who 63 = .ok (.getfield 12, 3) := by decide +kernel
theorem dX11_who_66 : decode cX11_who 66 = .ok (.iload 6, 2) := by decide +kernel
theorem dX11_who_68 : decode cX11_who 68 = .ok (.invokevirtual 84, 3) := by decide +kernel
theorem dX11_who_71 : decode cX11_who 71 = .ok (.ifCond .ne 6, 3) := by decide +kernel
theorem dX11_who_74 : decode cX11_who 74 = .ok (.goto 31, 3) := by decide +kernel
theorem dX11_who_77 : decode cX11_who 77 = .ok (.aload_n 0, 1) := by decide +kernel
theorem dX11_who_78 : decode cX11_who 78 = .ok (.getfield 53, 3) := by decide +kernel
theorem dX11_who_81 : decode cX11_who 81 = .ok (.iload 6, 2) := by decide +kernel
theorem dX11_who_83 : decode cX11_who 83 = .ok (.iload_n 1, 1) := by decide +kernel
theorem dX11_who_84 : decode cX11_who 84 = .ok (.iload_n 3, 1) := by decide +kernel
theorem dX11_who_85 : decode cX11_who 85 = .ok (.invokevirtual 218, 3) := by decide +kernel
theorem dX11_who_88 : decode cX11_who 88 = .ok (.istore 7, 2) := by decide +kernel
theorem dX11_who_90 : decode cX11_who 90 = .ok (.iload 7, 2) := by decide +kernel
theorem dX11_who_92 : decode cX11_who 92 = .ok (.iload 5, 2) := by decide +kernel
theorem dX11_who_94 : decode cX11_who 94 = .ok (.if_icmp .le 11, 3) := by decide +kernel
theorem dX11_who_97 : decode cX11_who 97 = .ok (.iload 6, 2) := by decide +kernel
theorem dX11_who_99 : decode cX11_who 99 = .ok (.istore 4, 2) := by decide +kernel
theorem dX11_who_101 : decode cX11_who 101 = .ok (.iload 7, 2) := by decide +kernel
theorem dX11_who_103 : decode cX11_who 103 = .ok (.istore 5, 2) := by decide +kernel
theorem dX11_who_105 : decode cX11_who 105 = .ok (.iinc 6 1, 3) := by decide +kernel
theorem dX11_who_108 : decode cX11_who 108 = .ok (.goto (-52), 3) := by decide +kernel
theorem dX11_who_111 : decode cX11_who 111 = .ok (.iload_n 2, 1) := by decide +kernel
theorem dX11_who_112 : decode cX11_who 112 = .ok (.ifCond .ne 8, 3) := by decide +kernel
theorem dX11_who_115 : decode cX11_who 115 = .ok (.iload 4, 2) := by decide +kernel
theorem dX11_who_117 : decode cX11_who 117 = .ok (.goto 5, 3) := by decide +kernel
theorem dX11_who_120 : decode cX11_who 120 = .ok (.iload 5, 2) := by decide +kernel
theorem dX11_who_122 : decode cX11_who 122 = .ok (.ireturn, 1) := by decide +kernel
theorem dX11_none_0 : decode cX11_none 0 = .ok (.iload_n 2, 1) := by decide +kernel
theorem dX11_none_1 : decode cX11_none 1 = .ok (.ifCond .eq 15, 3) := by decide +kernel
theorem dX11_none_4 : decode cX11_none 4 = .ok (.iload_n 2, 1) := by decide +kernel
theorem dX11_none_5 : decode cX11_none 5 = .ok (.iconst 1, 1) := by decide +kernel
theorem dX11_none_6 : decode cX11_none 6 = .ok (.if_icmp .eq 10, 3) := by decide +kernel
theorem dX11_none_9 : decode cX11_none 9 = .ok (.aload_n 0, 1) := by decide +kernel
theorem dX11_none_10 : decode cX11_none 10 = .ok (.bipush (-2), 2) := by decide +kernel
theorem dX11_none_12 : decode cX11_none 12 = .ok (.invokevirtual 80, 3) := by decide +kernel
theorem dX11_none_15 : decode cX11_none 15 = .ok (.ireturn, 1) := by decide +kernel
theorem dX11_none_16 : decode cX11_none 16 = .ok (.iload_n 1, 1) := by decide +kernel
theorem dX11_none_17 : decode cX11_none 17 = .ok (.ifCond .ge 10, 3) := by decide +kernel
theorem dX11_none_20 : decode cX11_none 20 = .ok (.aload_n 0, 1) := by decide +kernel
theorem dX11_none_21 : decode cX11_none 21 = .ok (.bipush (-4), 2) := by decide +kernel
theorem dX11_none_23 : decode cX11_none 23 = .ok (.invokevirtual 80, 3) := by decide +kernel
theorem dX11_none_26 : decode cX11_none 26 = .ok (.ireturn, 1) := by decide +kernel
theorem dX11_none_27 : decode cX11_none 27 = .ok (.iload_n 1, 1) := by decide +kernel
theorem dX11_none_28 : decode cX11_none 28 = .ok (.ldc 221, 2) := by decide +kernel
theorem dX11_none_30 : decode cX11_none 30 = .ok (.if_icmp .le 10, 3) := by decide +kernel
theorem dX11_none_33 : decode cX11_none 33 = .ok (.aload_n 0, 1) := by decide +kernel
theorem dX11_none_34 : decode cX11_none 34 = .ok (.bipush (-6), 2) := by decide +kernel
theorem dX11_none_36 : decode cX11_none 36 = .ok (.invokevirtual 80, 3) := by decide +kernel
theorem dX11_none_39 : decode cX11_none 39 = .ok (.ireturn, 1) := by decide +kernel
theorem dX11_none_40 : decode cX11_none 40 = .ok (.aload_n 0, 1) := by decide +kernel
theorem dX11_none_41 : decode cX11_none 41 = .ok (.getfield 76, 3) := by decide +kernel
theorem dX11_none_44 : decode cX11_none 44 = .ok (.aload_n 0, 1) := by decide +kernel
theorem dX11_none_45 : decode cX11_none 45 = .ok (.invokevirtual 159, 3) := by decide +kernel
theorem dX11_none_48 : decode cX11_none 48 = .ok (.iload_n 1, 1) := by decide +kernel
theorem dX11_none_49 : decode cX11_none 49 = .ok (.invokevirtual 222, 3) := by decide +kernel
theorem dX11_none_52 : decode cX11_none 52 = .ok (.istore_n 3, 1) := by decide +kernel
theorem dX11_none_53 : decode cX11_none 53 = .ok (.iload_n 3, 1) := by decide +kernel
theorem dX11_none_54 : decode cX11_none 54 = .ok (.ifCond .ne 6, 3) := by decide +kernel
theorem dX11_none_57 : decode cX11_none 57 = .ok (.bipush (-9), 2) := by decide +kernel
theorem dX11_none_59 : decode cX11_none 59 = .ok (.ireturn, 1) := by decide +kernel
theorem dX11_none_60 : decode cX11_none 60 = .ok (.iload_n 2, 1) := by decide +kernel
theorem dX11_none_61 : decode cX11_none 61 = .ok (.ifCond .ne 10, 3) := by decide +kernel
theorem dX11_none_64 : decode cX11_none 64 = .ok (.iload_n 3, 1) := by decide +kernel
theorem dX11_none_65 : decode cX11_none 65 = .ok (.invokestatic 225, 3) := by decide +kernel
theorem dX11_none_68 : decode cX11_none 68 = .ok (.goto 4, 3) := by decide +kernel
theorem dX11_none_71 : decode cX11_none 71 = .ok (.iload_n 3, 1) := by decide +kernel
theorem dX11_none_72 : decode cX11_none 72 = .ok (.ireturn, 1) := by decide +kernel
theorem dX11_year_0 : decode cX11_year 0 = .ok (.aload_n 0, 1) := by decide +kernel
theorem dX11_year_1 : decode cX11_year 1 = .ok (.getfield 12, 3) := by decide +kernel
theorem dX11_year_4 : decode cX11_year 4 = .ok (.iload_n 1, 1) := by decide +kernel
theorem dX11_year_5 : decode cX11_year 5 = .ok (.invokevirtual 166, 3) := by decide +kernel
theorem dX11_year_8 : decode cX11_year 8 = .ok (.ifCond .ne 9, 3) := by decide +kernel
theorem dX11_year_11 : decode cX11_year 11 = .ok (.aload_n 0, 1) := by decide +kernel
theorem dX11_year_12 : decode cX11_year 12 = .ok (.iconst (-1), 1) := by decide +kernel
theorem dX11_year_13 : decode cX11_year 13 = .ok (.invokevirtual 80, 3) := by decide +kernel
theorem dX11_year_16 : decode cX11_year 16 = .ok (.ireturn, 1) := by decide +kernel
theorem dX11_year_17 : decode cX11_year 17 = .ok (.aload_n 0, 1) := by decide +kernel
theorem dX11_year_18 : decode cX11_year 18 = .ok (.getfield 12, 3) := by decide +kernel
theorem dX11_year_21 : decode cX11_year 21 = .ok (.getfield 230, 3) := by decide +kernel
theorem dX11_year_24 : decode cX11_year 24 = .ok (.bipush 60, 2) := by decide +kernel
theorem dX11_year_26 : decode cX11_year 26 = .ok (.if_icmp .lt 10, 3) := by decide +kernel
theorem dX11_year_29 : decode cX11_year 29 = .ok (.aload_n 0, 1) := by decide +kernel
theorem dX11_year_30 : decode cX11_year 30 = .ok (.bipush (-6), 2) := by decide +kernel
theorem dX11_year_32 : decode cX11_year 32 = .ok (.invokevirtual 80, 3) := by decide +kernel
theorem dX11_year_35 : decode cX11_year 35 = .ok (.ireturn, 1) := by decide +kernel
theorem dX11_year_36 : decode cX11_year 36 = .ok (.aload_n 0, 1) := by decide +kernel
theorem dX11_year_37 : decode cX11_year 37 = .ok (.getfield 12, 3) := by decide +kernel
theorem dX11_year_40 : decode cX11_year 40 = .ok (.getfield 233, 3) := by decide +kernel
theorem dX11_year_43 : decode cX11_year 43 = .ok (.iload_n 1, 1) := by decide +kernel
theorem dX11_year_44 : decode cX11_year 44 = .ok (.dup2, 1) := by decide +kernel
theorem dX11_year_45 : decode cX11_year 45 = .ok (.iaload, 1) := by decide +kernel
theorem dX11_year_46 : decode cX11_year 46 = .ok (.iconst 1, 1) := by decide +kernel
theorem dX11_year_47 : decode cX11_year 47 = .ok (.iadd, 1) := by decide +kernel
theorem dX11_year_48 : decode cX11_year 48 = .ok (.iastore, 1) := by decide +kernel
theorem dX11_year_49 : decode cX11_year 49 = .ok (.aload_n 0, 1) := by decide +kernel
theorem dX11_year_50 : decode cX11_year 50 = .ok (.getfield 12, 3) := by decide +kernel
theorem dX11_year_53 : decode cX11_year 53 = .ok (.dup, 1) := by decide +kernel
theorem dX11_year_54 : decode cX11_year 54 = .ok (.getfield 230, 3) := by decide +kernel
theorem dX11_year_57 : decode cX11_year 57 = .ok (.iconst 1, 1) := by decide +kernel
theorem dX11_year_58 : decode cX11_year 58 = .ok (.iadd, 1) := by decide +kernel
theorem dX11_year_59 : decode cX11_year 59 = .ok (.putfield 230, 3) := by decide +kernel
theorem dX11_year_62 : decode cX11_year 62 = .ok (.aload_n 0, 1) := by decide +kernel
theorem dX11_year_63 : decode cX11_year 63 = .ok (.getfield 12, 3) := by decide +kernel
theorem dX11_year_66 : decode cX11_year 66 = .ok (.getfield 230, 3) := by decide +kernel
theorem dX11_year_69 : decode cX11_year 69 = .ok (.ireturn, 1) := by decide +kernel
theorem dX11_out_0 : decode cX11_out 0 = .ok (.aload_n 0, 1) := by decide +kernel
theorem dX11_out_1 : decode cX11_out 1 = .ok (.getfield 12, 3) := by decide +kernel
theorem dX11_out_4 : decode cX11_out 4 = .ok (.getfield 230, 3) := by decide +kernel
theorem dX11_out_7 : decode cX11_out 7 = .ok (.aload_n 0, 1) := by decide +kernel
theorem dX11_out_8 : decode cX11_out 8 = .ok (.getfield 12, 3) := by decide +kernel
theorem dX11_out_11 : decode cX11_out 11 = .ok (.aload_n 0, 1) := by decide +kernel
theorem dX11_out_12 : decode cX11_out 12 = .ok (.invokevirtual 159, 3) := by decide +kernel
theorem dX11_out_15 : decode cX11_out 15 = .ok (.invokevirtual 236, 3) := by decide +kernel
theorem dX11_out_18 : decode cX11_out 18 = .ok (.isub, 1) := by decide +kernel
theorem dX11_out_19 : decode cX11_out 19 = .ok (.ireturn, 1) := by decide +kernel
theorem dX11_dearYears_0 : decode cX11_dearYears 0 = .ok (.aload_n 0, 1) := by decide +kernel
theorem dX11_dearYears_1 : decode cX11_dearYears 1 = .ok (.getfield 12, 3) := by decide +kernel
theorem dX11_dearYears_4 : decode cX11_dearYears 4 = .ok (.iload_n 1, 1) := by decide +kernel
theorem dX11_dearYears_5 : decode cX11_dearYears 5 = .ok (.invokevirtual 163, 3) := by decide +kernel
theorem dX11_dearYears_8 : decode cX11_dearYears 8 = .ok (.ifCond .ne 9, 3) := by decide +kernel
theorem dX11_dearYears_11 : decode cX11_dearYears 11 = .ok (.aload_n 0, 1) := by decide +kernel
theorem dX11_dearYears_12 : decode cX11_dearYears 12 = .ok (.iconst (-1), 1) := by decide +kernel
theorem dX11_dearYears_13 : decode cX11_dearYears 13 = .ok (.invokevirtual 80, 3) := by decide +kernel
theorem dX11_dearYears_16 : decode cX11_dearYears 16 = .ok (.ireturn, 1) := by decide +kernel
theorem dX11_dearYears_17 : decode cX11_dearYears 17 = .ok (.aload_n 0, 1) := by decide +kernel
theorem dX11_dearYears_18 : decode cX11_dearYears 18 = .ok (.invokevirtual 159, 3) := by decide +kernel
theorem dX11_dearYears_21 : decode cX11_dearYears 21 = .ok (.istore_n 2, 1) := by decide +kernel
theorem dX11_dearYears_22 : decode cX11_dearYears 22 = .ok (.iload_n 2, 1) := by decide +kernel
theorem dX11_dearYears_23 : decode cX11_dearYears 23 = .ok (.ifCond .ne 6, 3) := by decide +kernel
theorem dX11_dearYears_26 : decode cX11_dearYears 26 = .ok (.bipush (-9), 2) := by decide +kernel
theorem dX11_dearYears_28 : decode cX11_dearYears 28 = .ok (.ireturn, 1) := by decide +kernel
theorem dX11_dearYears_29 : decode cX11_dearYears 29 = .ok (.aload_n 0, 1) := by decide +kernel
theorem dX11_dearYears_30 : decode cX11_dearYears 30 = .ok (.getfield 60, 3) := by decide +kernel
theorem dX11_dearYears_33 : decode cX11_dearYears 33 = .ok (.iload_n 1, 1) := by decide +kernel
theorem dX11_dearYears_34 : decode cX11_dearYears 34 = .ok (.iload_n 2, 1) := by decide +kernel
theorem dX11_dearYears_35 : decode cX11_dearYears 35 = .ok (.invokevirtual 176, 3) := by decide +kernel
theorem dX11_dearYears_38 : decode cX11_dearYears 38 = .ok (.istore_n 3, 1) := by decide +kernel
theorem dX11_dearYears_39 : decode cX11_dearYears 39 = .ok (.iconst 0, 1) := by decide +kernel
theorem dX11_dearYears_40 : decode cX11_dearYears 40 = .ok (.istore 4, 2) := by decide +kernel
theorem dX11_dearYears_42 : decode cX11_dearYears 42 = .ok (.iconst 0, 1) := by decide +kernel
theorem dX11_dearYears_43 : decode cX11_dearYears 43 = .ok (.istore 5, 2) := by decide +kernel
theorem dX11_dearYears_45 : decode cX11_dearYears 45 = .ok (.iload 5, 2) := by decide +kernel
theorem dX11_dearYears_47 : decode cX11_dearYears 47 = .ok (.bipush 16, 2) := by decide +kernel
theorem dX11_dearYears_49 : decode cX11_dearYears 49 = .ok (.if_icmp .ge 47, 3) := by decide +kernel
theorem dX11_dearYears_52 : decode cX11_dearYears 52 = .ok (.aload_n 0, 1) := by decide +kernel
theorem dX11_dearYears_53 : decode cX11_dearYears 53 = .ok (.getfield 12, 3) := by decide +kernel
theorem dX11_dearYears_56 : decode cX11_dearYears 56 = .ok (.getfield 233, 3) := by decide +kernel
theorem dX11_dearYears_59 : decode cX11_dearYears 59 = .ok (.iload 5, 2) := by decide +kernel
theorem dX11_dearYears_61 : decode cX11_dearYears 61 = .ok (.iaload, 1) := by decide +kernel
theorem dX11_dearYears_62 : decode cX11_dearYears 62 = .ok (.istore 6, 2) := by decide +kernel
theorem dX11_dearYears_64 : decode cX11_dearYears 64 = .ok (.iload 6, 2) := by decide +kernel
theorem dX11_dearYears_66 : decode cX11_dearYears 66 = .ok (.ifCond .le 24, 3) := by decide +kernel
theorem dX11_dearYears_69 : decode cX11_dearYears 69 = .ok (.aload_n 0, 1) := by decide +kernel
theorem dX11_dearYears_70 : decode cX11_dearYears 70 = .ok (.getfield 60, 3) := by decide +kernel
theorem dX11_dearYears_73 : decode cX11_dearYears 73 = .ok (.iload_n 1, 1) := by decide +kernel
theorem dX11_dearYears_74 : decode cX11_dearYears 74 = .ok (.iload 5, 2) := by decide +kernel
theorem dX11_dearYears_76 : decode cX11_dearYears 76 = .ok (.invokevirtual 169, 3) := by decide +kernel
theorem dX11_dearYears_79 : decode cX11_dearYears 79 = .ok (.iload_n 3, 1) := by decide +kernel
theorem dX11_dearYears_80 : decode cX11_dearYears 80 = .ok (.if_icmp .le 10, 3) := by decide +kernel
theorem dX11_dearYears_83 : decode cX11_dearYears 83 = .ok (.iload 4, 2) := by decide +kernel
theorem dX11_dearYears_85 : decode cX11_dearYears 85 = .ok (.iload 6, 2) := by decide +kernel
theorem dX11_dearYears_87 : decode cX11_dearYears 87 = .ok (.iadd, 1) := by decide +kernel
theorem dX11_dearYears_88 : decode cX11_dearYears 88 = .ok (.istore 4, 2) := by decide +kernel
theorem dX11_dearYears_90 : decode cX11_dearYears 90 = .ok (.iinc 5 1, 3) := by decide +kernel
theorem dX11_dearYears_93 : decode cX11_dearYears 93 = .ok (.goto (-48), 3) := by decide +kernel
theorem dX11_dearYears_96 : decode cX11_dearYears 96 = .ok (.iload 4, 2) := by decide +kernel
theorem dX11_dearYears_98 : decode cX11_dearYears 98 = .ok (.ireturn, 1) := by decide +kernel
theorem dX11_drawn_0 : decode cX11_drawn 0 = .ok (.iload_n 1, 1) := by decide +kernel
theorem dX11_drawn_1 : decode cX11_drawn 1 = .ok (.ifCond .ge 10, 3) := by decide +kernel
theorem dX11_drawn_4 : decode cX11_drawn 4 = .ok (.aload_n 0, 1) := by decide +kernel
theorem dX11_drawn_5 : decode cX11_drawn 5 = .ok (.bipush (-4), 2) := by decide +kernel
theorem dX11_drawn_7 : decode cX11_drawn 7 = .ok (.invokevirtual 80, 3) := by decide +kernel
theorem dX11_drawn_10 : decode cX11_drawn 10 = .ok (.ireturn, 1) := by decide +kernel
theorem dX11_drawn_11 : decode cX11_drawn 11 = .ok (.iload_n 1, 1) := by decide +kernel
theorem dX11_drawn_12 : decode cX11_drawn 12 = .ok (.bipush 60, 2) := by decide +kernel
theorem dX11_drawn_14 : decode cX11_drawn 14 = .ok (.if_icmp .le 10, 3) := by decide +kernel
theorem dX11_drawn_17 : decode cX11_drawn 17 = .ok (.aload_n 0, 1) := by decide +kernel
theorem dX11_drawn_18 : decode cX11_drawn 18 = .ok (.bipush (-6), 2) := by decide +kernel
theorem dX11_drawn_20 : decode cX11_drawn 20 = .ok (.invokevirtual 80, 3) := by decide +kernel
theorem dX11_drawn_23 : decode cX11_drawn 23 = .ok (.ireturn, 1) := by decide +kernel
theorem dX11_drawn_24 : decode cX11_drawn 24 = .ok (.iconst 0, 1) := by decide +kernel
theorem dX11_drawn_25 : decode cX11_drawn 25 = .ok (.istore_n 2, 1) := by decide +kernel
theorem dX11_drawn_26 : decode cX11_drawn 26 = .ok (.iload_n 2, 1) := by decide +kernel
theorem dX11_drawn_27 : decode cX11_drawn 27 = .ok (.iconst 4, 1) := by decide +kernel
theorem dX11_drawn_28 : decode cX11_drawn 28 = .ok (.if_icmp .gt 30, 3) := by decide +kernel
theorem dX11_drawn_31 : decode cX11_drawn 31 = .ok (.aload_n 0, 1) := by decide +kernel
theorem dX11_drawn_32 : decode cX11_drawn 32 = .ok (.getfield 12, 3) := by decide +kernel
theorem dX11_drawn_35 : decode cX11_drawn 35 = .ok (.aload_n 0, 1) := by decide +kernel
theorem dX11_drawn_36 : decode cX11_drawn 36 = .ok (.getfield 12, 3) := by decide +kernel
theorem dX11_drawn_39 : decode cX11_drawn 39 = .ok (.iload_n 2, 1) := by decide +kernel
theorem dX11_drawn_40 : decode cX11_drawn 40 = .ok (.invokevirtual 212, 3) := by decide +kernel
theorem dX11_drawn_43 : decode cX11_drawn 43 = .ok (.invokevirtual 236, 3) := by decide +kernel
theorem dX11_drawn_46 : decode cX11_drawn 46 = .ok (.iload_n 1, 1) := by decide +kernel
theorem dX11_drawn_47 : decode cX11_drawn 47 = .ok (.if_icmp .lt 5, 3) := by decide +kernel
theorem dX11_drawn_50 : decode cX11_drawn 50 = .ok (.iload_n 2, 1) := by decide +kernel
theorem dX11_drawn_51 : decode cX11_drawn 51 = .ok (.ireturn, 1) := by decide +kernel
theorem dX11_drawn_52 : decode cX11_drawn 52 = .ok (.iinc 2 1, 3) := by decide +kernel
theorem dX11_drawn_55 : decode cX11_drawn 55 = .ok (.goto (-29), 3) := by decide +kernel
theorem dX11_drawn_58 : decode cX11_drawn 58 = .ok (.bipush (-9), 2) := by decide +kernel
theorem dX11_drawn_60 : decode cX11_drawn 60 = .ok (.ireturn, 1) := by decide +kernel
theorem dX11_image_0 : decode cX11_image 0 = .ok (.aload_n 0, 1) := by decide +kernel
theorem dX11_image_1 : decode cX11_image 1 = .ok (.getfield 16, 3) := by decide +kernel
theorem dX11_image_4 : decode cX11_image 4 = .ok (.aload_n 0, 1) := by decide +kernel
theorem dX11_image_5 : decode cX11_image 5 = .ok (.getfield 12, 3) := by decide +kernel
theorem dX11_image_8 : decode cX11_image 8 = .ok (.invokevirtual 239, 3) := by decide +kernel
theorem dX11_image_11 : decode cX11_image 11 = .ok (.aload_n 0, 1) := by decide +kernel
theorem dX11_image_12 : decode cX11_image 12 = .ok (.iconst 1, 1) := by decide +kernel
theorem dX11_image_13 : decode cX11_image 13 = .ok (.putfield 19, 3) := by decide +kernel
theorem dX11_image_16 : decode cX11_image 16 = .ok (.aload_n 0, 1) := by decide +kernel
theorem dX11_image_17 : decode cX11_image 17 = .ok (.getfield 12, 3) := by decide +kernel
theorem dX11_image_20 : decode cX11_image 20 = .ok (.getfield 88, 3) := by decide +kernel
theorem dX11_image_23 : decode cX11_image 23 = .ok (.invokestatic 225, 3) := by decide +kernel
theorem dX11_image_26 : decode cX11_image 26 = .ok (.ireturn, 1) := by decide +kernel
theorem dX11_restore_0 : decode cX11_restore 0 = .ok (.aload_n 0, 1) := by decide +kernel
theorem dX11_restore_1 : decode cX11_restore 1 = .ok (.getfield 19, 3) := by decide +kernel
theorem dX11_restore_4 : decode cX11_restore 4 = .ok (.ifCond .ne 10, 3) := by decide +kernel
theorem dX11_restore_7 : decode cX11_restore 7 = .ok (.aload_n 0, 1) := by decide +kernel
theorem dX11_restore_8 : decode cX11_restore 8 = .ok (.bipush (-3), 2) := by decide +kernel
theorem dX11_restore_10 : decode cX11_restore 10 = .ok (.invokevirtual 80, 3) := by decide +kernel
theorem dX11_restore_13 : decode cX11_restore 13 = .ok (.ireturn, 1) := by decide +kernel
theorem dX11_restore_14 : decode cX11_restore 14 = .ok (.aload_n 0, 1) := by decide +kernel
theorem dX11_restore_15 : decode cX11_restore 15 = .ok (.getfield 12, 3) := by decide +kernel
theorem dX11_restore_18 : decode cX11_restore 18 = .ok (.aload_n 0, 1) := by decide +kernel
theorem dX11_restore_19 : decode cX11_restore 19 = .ok (.getfield 16, 3) := by decide +kernel
theorem dX11_restore_22 : decode cX11_restore 22 = .ok (.invokevirtual 239, 3) := by decide +kernel
theorem dX11_restore_25 : decode cX11_restore 25 = .ok (.aload_n 0, 1) := by decide +kernel
theorem dX11_restore_26 : decode cX11_restore 26 = .ok (.getfield 26, 3) := by decide +kernel
theorem dX11_restore_29 : decode cX11_restore 29 = .ok (.iconst 0, 1) := by decide +kernel
theorem dX11_restore_30 : decode cX11_restore 30 = .ok (.putfield 107, 3) := by decide +kernel
theorem dX11_restore_33 : decode cX11_restore 33 = .ok (.aload_n 0, 1) := by decide +kernel
theorem dX11_restore_34 : decode cX11_restore 34 = .ok (.getfield 60, 3) := by decide +kernel
theorem dX11_restore_37 : decode cX11_restore 37 = .ok (.invokevirtual 91, 3) := by decide +kernel
theorem dX11_restore_40 : decode cX11_restore 40 = .ok (.aload_n 0, 1) := by decide +kernel
theorem dX11_restore_41 : decode cX11_restore 41 = .ok (.getfield 12, 3) := by decide +kernel
theorem dX11_restore_44 : decode cX11_restore 44 = .ok (.getfield 88, 3) := by decide +kernel
theorem dX11_restore_47 : decode cX11_restore 47 = .ok (.invokestatic 225, 3) := by decide +kernel
theorem dX11_restore_50 : decode cX11_restore 50 = .ok (.ireturn, 1) := by decide +kernel
theorem dX11_count_0 : decode cX11_count 0 = .ok (.iload_n 1, 1) := by decide +kernel
theorem dX11_count_1 : decode cX11_count 1 = .ok (.bipush 11, 2) := by decide +kernel
theorem dX11_count_3 : decode cX11_count 3 = .ok (.if_icmp .lt 19, 3) := by decide +kernel
theorem dX11_count_6 : decode cX11_count 6 = .ok (.iload_n 1, 1) := by decide +kernel
theorem dX11_count_7 : decode cX11_count 7 = .ok (.bipush 16, 2) := by decide +kernel
theorem dX11_count_9 : decode cX11_count 9 = .ok (.if_icmp .gt 13, 3) := by decide +kernel
theorem dX11_count_12 : decode cX11_count 12 = .ok (.aload_n 0, 1) := by decide +kernel
theorem dX11_count_13 : decode cX11_count 13 = .ok (.getfield 45, 3) := by decide +kernel
theorem dX11_count_16 : decode cX11_count 16 = .ok (.iload_n 1, 1) := by decide +kernel
theorem dX11_count_17 : decode cX11_count 17 = .ok (.bipush 10, 2) := by decide +kernel
theorem dX11_count_19 : decode cX11_count 19 = .ok (.isub, 1) := by decide +kernel
theorem dX11_count_20 : decode cX11_count 20 = .ok (.iaload, 1) := by decide +kernel
theorem dX11_count_21 : decode cX11_count 21 = .ok (.ireturn, 1) := by decide +kernel
theorem dX11_count_22 : decode cX11_count 22 = .ok (.iload_n 1, 1) := by decide +kernel
theorem dX11_count_23 : decode cX11_count 23 = .ok (.tableswitch 124 0 8 #[49, 60, 68, 79, 87, 95, 103, 111, 116], 49) := by decide +kernel
theorem dX11_count_72 : decode cX11_count 72 = .ok (.aload_n 0, 1) := by decide +kernel
theorem dX11_count_73 : decode cX11_count 73 = .ok (.getfield 12, 3) := by decide +kernel
theorem dX11_count_76 : decode cX11_count 76 = .ok (.getfield 88, 3) := by decide +kernel
theorem dX11_count_79 : decode cX11_count 79 = .ok (.invokestatic 225, 3) := by decide +kernel
theorem dX11_count_82 : decode cX11_count 82 = .ok (.ireturn, 1) := by decide +kernel
theorem dX11_count_83 : decode cX11_count 83 = .ok (.aload_n 0, 1) := by decide +kernel
theorem dX11_count_84 : decode cX11_count 84 = .ok (.getfield 12, 3) := by decide +kernel
theorem dX11_count_87 : decode cX11_count 87 = .ok (.getfield 124, 3) := by decide +kernel
theorem dX11_count_90 : decode cX11_count 90 = .ok (.ireturn, 1) := by decide +kernel
theorem dX11_count_91 : decode cX11_count 91 = .ok (.aload_n 0, 1) := by decide +kernel
theorem dX11_count_92 : decode cX11_count 92 = .ok (.getfield 12, 3) := by decide +kernel
theorem dX11_count_95 : decode cX11_count 95 = .ok (.getfield 139, 3) := by decide +kernel
theorem dX11_count_98 : decode cX11_count 98 = .ok (.invokestatic 225, 3) := by decide +kernel
theorem dX11_count_101 : decode cX11_count 101 = .ok (.ireturn, 1) := by decide +kernel
theorem dX11_count_102 : decode cX11_count 102 = .ok (.aload_n 0, 1) := by decide +kernel
theorem dX11_count_103 : decode cX11_count 103 = .ok (.getfield 12, 3) := by decide +kernel
theorem dX11_count_106 : decode cX11_count 106 = .ok (.invokevirtual 242, 3) := by decide +kernel
theorem dX11_count_109 : decode cX11_count 109 = .ok (.ireturn, 1) := by decide +kernel
theorem dX11_count_110 : decode cX11_count 110 = .ok (.aload_n 0, 1) := by decide +kernel
theorem dX11_count_111 : decode cX11_count 111 = .ok (.invokevirtual 159, 3) := by decide +kernel
theorem dX11_count_114 : decode cX11_count 114 = .ok (.invokestatic 225, 3) := by decide +kernel
theorem dX11_count_117 : decode cX11_count 117 = .ok (.ireturn, 1) := by decide +kernel
theorem dX11_count_118 : decode cX11_count 118 = .ok (.aload_n 0, 1) := by decide +kernel
theorem dX11_count_119 : decode cX11_count 119 = .ok (.getfield 12, 3) := by decide +kernel
theorem dX11_count_122 : decode cX11_count 122 = .ok (.getfield 230, 3) := by decide +kernel
theorem dX11_count_125 : decode cX11_count 125 = .ok (.ireturn, 1) := by decide +kernel
theorem dX11_count_126 : decode cX11_count 126 = .ok (.aload_n 0, 1) := by decide +kernel
theorem dX11_count_127 : decode cX11_count 127 = .ok (.getfield 33, 3) := by decide +kernel
theorem dX11_count_130 : decode cX11_count 130 = .ok (.getfield 117, 3) := by decide +kernel
theorem dX11_count_133 : decode cX11_count 133 = .ok (.ireturn, 1) := by decide +kernel
theorem dX11_count_134 : decode cX11_count 134 = .ok (.aload_n 0, 1) := by decide +kernel
theorem dX11_count_135 : decode cX11_count 135 = .ok (.getfield 41, 3) := by decide +kernel
theorem dX11_count_138 : decode cX11_count 138 = .ok (.ireturn, 1) := by decide +kernel
theorem dX11_count_139 : decode cX11_count 139 = .ok (.aload_n 0, 1) := by decide +kernel
theorem dX11_count_140 : decode cX11_count 140 = .ok (.getfield 26, 3) := by decide +kernel
theorem dX11_count_143 : decode cX11_count 143 = .ok (.getfield 107, 3) := by decide +kernel
theorem dX11_count_146 : decode cX11_count 146 = .ok (.ireturn, 1) := by decide +kernel
theorem dX11_count_147 : decode cX11_count 147 = .ok (.bipush (-9), 2) := by decide +kernel
theorem dX11_count_149 : decode cX11_count 149 = .ok (.ireturn, 1) := by decide +kernel
theorem dX11_refuse_0 : decode cX11_refuse 0 = .ok (.iload_n 1, 1) := by decide +kernel
theorem dX11_refuse_1 : decode cX11_refuse 1 = .ok (.ineg, 1) := by decide +kernel
theorem dX11_refuse_2 : decode cX11_refuse 2 = .ok (.istore_n 2, 1) := by decide +kernel
theorem dX11_refuse_3 : decode cX11_refuse 3 = .ok (.iload_n 2, 1) := by decide +kernel
theorem dX11_refuse_4 : decode cX11_refuse 4 = .ok (.iconst 1, 1) := by decide +kernel
theorem dX11_refuse_5 : decode cX11_refuse 5 = .ok (.if_icmp .lt 22, 3) := by decide +kernel
theorem dX11_refuse_8 : decode cX11_refuse 8 = .ok (.iload_n 2, 1) := by decide +kernel
theorem dX11_refuse_9 : decode cX11_refuse 9 = .ok (.aload_n 0, 1) := by decide +kernel
theorem dX11_refuse_10 : decode cX11_refuse 10 = .ok (.getfield 45, 3) := by decide +kernel
theorem dX11_refuse_13 : decode cX11_refuse 13 = .ok (.arraylength, 1) := by decide +kernel
theorem dX11_refuse_14 : decode cX11_refuse 14 = .ok (.if_icmp .ge 13, 3) := by decide +kernel
theorem dX11_refuse_17 : decode cX11_refuse 17 = .ok (.aload_n 0, 1) := by decide +kernel
theorem dX11_refuse_18 : decode cX11_refuse 18 = .ok (.getfield 45, 3) := by decide +kernel
theorem dX11_refuse_21 : decode cX11_refuse 21 = .ok (.iload_n 2, 1) := by decide +kernel
theorem dX11_refuse_22 : decode cX11_refuse 22 = .ok (.dup2, 1) := by decide +kernel
theorem dX11_refuse_23 : decode cX11_refuse 23 = .ok (.iaload, 1) := by decide +kernel
theorem dX11_refuse_24 : decode cX11_refuse 24 = .ok (.iconst 1, 1) := by decide +kernel
theorem dX11_refuse_25 : decode cX11_refuse 25 = .ok (.iadd, 1) := by decide +kernel
theorem dX11_refuse_26 : decode cX11_refuse 26 = .ok (.iastore, 1) := by decide +kernel
theorem dX11_refuse_27 : decode cX11_refuse 27 = .ok (.iload_n 1, 1) := by decide +kernel
theorem dX11_refuse_28 : decode cX11_refuse 28 = .ok (.ireturn, 1) := by decide +kernel
theorem dX11_change_0 : decode cX11_change 0 = .ok (.iload_n 2, 1) := by decide +kernel
theorem dX11_change_1 : decode cX11_change 1 = .ok (.iload_n 3, 1) := by decide +kernel
theorem dX11_change_2 : decode cX11_change 2 = .ok (.if_icmp .ge 10, 3) := by decide +kernel
theorem dX11_change_5 : decode cX11_change 5 = .ok (.aload_n 0, 1) := by decide +kernel
theorem dX11_change_6 : decode cX11_change 6 = .ok (.bipush (-4), 2) := by decide +kernel
theorem dX11_change_8 : decode cX11_change 8 = .ok (.invokevirtual 80, 3) := by decide +kernel
theorem dX11_change_11 : decode cX11_change 11 = .ok (.ireturn, 1) := by decide +kernel
theorem dX11_change_12 : decode cX11_change 12 = .ok (.iload_n 2, 1) := by decide +kernel
theorem dX11_change_13 : decode cX11_change 13 = .ok (.iload 4, 2) := by decide +kernel
theorem dX11_change_15 : decode cX11_change 15 = .ok (.if_icmp .le 10, 3) := by decide +kernel
theorem dX11_change_18 : decode cX11_change 18 = .ok (.aload_n 0, 1) := by decide +kernel
theorem dX11_change_19 : decode cX11_change 19 = .ok (.bipush (-6), 2) := by decide +kernel
theorem dX11_change_21 : decode cX11_change 21 = .ok (.invokevirtual 80, 3) := by decide +kernel
theorem dX11_change_24 : decode cX11_change 24 = .ok (.ireturn, 1) := by decide +kernel
theorem dX11_change_25 : decode cX11_change 25 = .ok (.aload_n 0, 1) := by decide +kernel
theorem dX11_change_26 : decode cX11_change 26 = .ok (.getfield 12, 3) := by decide +kernel
theorem dX11_change_29 : decode cX11_change 29 = .ok (.getfield 110, 3) := by decide +kernel
theorem dX11_change_32 : decode cX11_change 32 = .ok (.iload_n 1, 1) := by decide +kernel
theorem dX11_change_33 : decode cX11_change 33 = .ok (.iaload, 1) := by decide +kernel
theorem dX11_change_34 : decode cX11_change 34 = .ok (.istore 5, 2) := by decide +kernel
theorem dX11_change_36 : decode cX11_change 36 = .ok (.aload_n 0, 1) := by decide +kernel
theorem dX11_change_37 : decode cX11_change 37 = .ok (.getfield 26, 3) := by decide +kernel
theorem dX11_change_40 : decode cX11_change 40 = .ok (.iload_n 1, 1) := by decide +kernel
theorem dX11_change_41 : decode cX11_change 41 = .ok (.iload 5, 2) := by decide +kernel
theorem dX11_change_43 : decode cX11_change 43 = .ok (.invokevirtual 245, 3) := by decide +kernel
theorem dX11_change_46 : decode cX11_change 46 = .ok (.aload_n 0, 1) := by decide +kernel
theorem dX11_change_47 : decode cX11_change 47 = .ok (.getfield 12, 3) := by decide +kernel
theorem dX11_change_50 : decode cX11_change 50 = .ok (.getfield 110, 3) := by decide +kernel
theorem dX11_change_53 : decode cX11_change 53 = .ok (.iload_n 1, 1) := by decide +kernel
theorem dX11_change_54 : decode cX11_change 54 = .ok (.iload_n 2, 1) := by decide +kernel
theorem dX11_change_55 : decode cX11_change 55 = .ok (.iastore, 1) := by decide +kernel
theorem dX11_change_56 : decode cX11_change 56 = .ok (.iload_n 2, 1) := by decide +kernel
theorem dX11_change_57 : decode cX11_change 57 = .ok (.iload 5, 2) := by decide +kernel
theorem dX11_change_59 : decode cX11_change 59 = .ok (.if_icmp .eq 16, 3) := by decide +kernel
theorem dX11_change_62 : decode cX11_change 62 = .ok (.iload_n 1, 1) := by decide +kernel
theorem dX11_change_63 : decode cX11_change 63 = .ok (.bipush 42, 2) := by decide +kernel
theorem dX11_change_65 : decode cX11_change 65 = .ok (.if_icmp .eq 10, 3) := by decide +kernel
theorem dX11_change_68 : decode cX11_change 68 = .ok (.aload_n 0, 1) := by decide +kernel
theorem dX11_change_69 : decode cX11_change 69 = .ok (.getfield 60, 3) := by decide +kernel
theorem dX11_change_72 : decode cX11_change 72 = .ok (.invokevirtual 91, 3) := by decide +kernel
theorem dX11_change_75 : decode cX11_change 75 = .ok (.iload 5, 2) := by decide +kernel
theorem dX11_change_77 : decode cX11_change 77 = .ok (.ireturn, 1) := by decide +kernel
theorem dX11_theSet_0 : decode cX11_theSet 0 = .ok (.aload_n 0, 1) := by decide +kernel
theorem dX11_theSet_1 : decode cX11_theSet 1 = .ok (.getfield 12, 3) := by decide +kernel
theorem dX11_theSet_4 : decode cX11_theSet 4 = .ok (.aload_n 0, 1) := by decide +kernel
theorem dX11_theSet_5 : decode cX11_theSet 5 = .ok (.getfield 12, 3) := by decide +kernel
theorem dX11_theSet_8 : decode cX11_theSet 8 = .ok (.getfield 110, 3) := by decide +kernel
theorem dX11_theSet_11 : decode cX11_theSet 11 = .ok (.bipush 42, 2) := by decide +kernel
theorem dX11_theSet_13 : decode cX11_theSet 13 = .ok (.iaload, 1) := by decide +kernel
theorem dX11_theSet_14 : decode cX11_theSet 14 = .ok (.invokevirtual 212, 3) := by decide +kernel
theorem dX11_theSet_17 : decode cX11_theSet 17 = .ok (.ireturn, 1) := by decide +kernel
theorem dX11_costWithWord_0 : decode cX11_costWithWord 0 = .ok (.iload_n 2, 1) := by decide +kernel
theorem dX11_costWithWord_1 : decode cX11_costWithWord 1 = .ok (.iconst 1, 1) := by decide +kernel
theorem dX11_costWithWord_2 : decode cX11_costWithWord 2 = .ok (.iload_n 1, 1) := by decide +kernel
theorem dX11_costWithWord_3 : decode cX11_costWithWord 3 = .ok (.ishl, 1) := by decide +kernel
theorem dX11_costWithWord_4 : decode cX11_costWithWord 4 = .ok (.iconst 1, 1) := by decide +kernel
theorem dX11_costWithWord_5 : decode cX11_costWithWord 5 = .ok (.iload_n 1, 1) := by decide +kernel
theorem dX11_costWithWord_6 : decode cX11_costWithWord 6 = .ok (.ishl, 1) := by decide +kernel
theorem dX11_costWithWord_7 : decode cX11_costWithWord 7 = .ok (.invokestatic 208, 3) := by decide +kernel
theorem dX11_costWithWord_10 : decode cX11_costWithWord 10 = .ok (.istore_n 3, 1) := by decide +kernel
theorem dX11_costWithWord_11 : decode cX11_costWithWord 11 = .ok (.aload_n 0, 1) := by decide +kernel
theorem dX11_costWithWord_12 : decode cX11_costWithWord 12 = .ok (.getfield 60, 3) := by decide +kernel
theorem dX11_costWithWord_15 : decode cX11_costWithWord 15 = .ok (.iload_n 3, 1) := by decide +kernel
theorem dX11_costWithWord_16 : decode cX11_costWithWord 16 = .ok (.invokevirtual 182, 3) := by decide +kernel
theorem dX11_costWithWord_19 : decode cX11_costWithWord 19 = .ok (.aload_n 0, 1) := by decide +kernel
theorem dX11_costWithWord_20 : decode cX11_costWithWord 20 = .ok (.getfield 60, 3) := by decide +kernel
theorem dX11_costWithWord_23 : decode cX11_costWithWord 23 = .ok (.iload_n 2, 1) := by decide +kernel
theorem dX11_costWithWord_24 : decode cX11_costWithWord 24 = .ok (.iload_n 3, 1) := by decide +kernel
theorem dX11_costWithWord_25 : decode cX11_costWithWord 25 = .ok (.iconst (-1), 1) := by decide +kernel
theorem dX11_costWithWord_26 : decode cX11_costWithWord 26 = .ok (.ixor, 1) := by decide +kernel
theorem dX11_costWithWord_27 : decode cX11_costWithWord 27 = .ok (.iand, 1) := by decide +kernel
theorem dX11_costWithWord_28 : decode cX11_costWithWord 28 = .ok (.invokevirtual 182, 3) := by decide +kernel
theorem dX11_costWithWord_31 : decode cX11_costWithWord 31 = .ok (.invokestatic 248, 3) := by decide +kernel
theorem dX11_costWithWord_34 : decode cX11_costWithWord 34 = .ok (.ireturn, 1) := by decide +kernel
theorem dX11_alike_0 : decode cX11_alike 0 = .ok (.iconst 0, 1) := by decide +kernel
theorem dX11_alike_1 : decode cX11_alike 1 = .ok (.istore_n 3, 1) := by decide +kernel
theorem dX11_alike_2 : decode cX11_alike 2 = .ok (.iconst 0, 1) := by decide +kernel
theorem dX11_alike_3 : decode cX11_alike 3 = .ok (.istore 4, 2) := by decide +kernel
theorem dX11_alike_5 : decode cX11_alike 5 = .ok (.iload 4, 2) := by decide +kernel
theorem dX11_alike_7 : decode cX11_alike 7 = .ok (.bipush 16, 2) := by decide +kernel
theorem dX11_alike_9 : decode cX11_alike 9 = .ok (.if_icmp .ge 25, 3) := by decide +kernel
theorem dX11_alike_12 : decode cX11_alike 12 = .ok (.iload 4, 2) := by decide +kernel
theorem dX11_alike_14 : decode cX11_alike 14 = .ok (.iload_n 1, 1) := by decide +kernel
theorem dX11_alike_15 : decode cX11_alike 15 = .ok (.ixor, 1) := by decide +kernel
theorem dX11_alike_16 : decode cX11_alike 16 = .ok (.iload_n 2, 1) := by decide +kernel
theorem dX11_alike_17 : decode cX11_alike 17 = .ok (.iand, 1) := by decide +kernel
theorem dX11_alike_18 : decode cX11_alike 18 = .ok (.ifCond .ne 10, 3) := by decide +kernel
theorem dX11_alike_21 : decode cX11_alike 21 = .ok (.iload_n 3, 1) := by decide +kernel
theorem dX11_alike_22 : decode cX11_alike 22 = .ok (.iconst 1, 1) := by decide +kernel
theorem dX11_alike_23 : decode cX11_alike 23 = .ok (.iload 4, 2) := by decide +kernel
theorem dX11_alike_25 : decode cX11_alike 25 = .ok (.ishl, 1) := by decide +kernel
theorem dX11_alike_26 : decode cX11_alike 26 = .ok (.ior, 1) := by decide +kernel
theorem dX11_alike_27 : decode cX11_alike 27 = .ok (.istore_n 3, 1) := by decide +kernel
theorem dX11_alike_28 : decode cX11_alike 28 = .ok (.iinc 4 1, 3) := by decide +kernel
theorem dX11_alike_31 : decode cX11_alike 31 = .ok (.goto (-26), 3) := by decide +kernel
theorem dX11_alike_34 : decode cX11_alike 34 = .ok (.iload_n 0, 1) := by decide +kernel
theorem dX11_alike_35 : decode cX11_alike 35 = .ok (.iload_n 3, 1) := by decide +kernel
theorem dX11_alike_36 : decode cX11_alike 36 = .ok (.iand, 1) := by decide +kernel
theorem dX11_alike_37 : decode cX11_alike 37 = .ok (.ireturn, 1) := by decide +kernel
theorem dX12_init_0 : decode cX12_init 0 = .ok (.aload_n 0, 1) := by decide +kernel
theorem dX12_init_1 : decode cX12_init 1 = .ok (.invokespecial 1, 3) := by decide +kernel
theorem dX12_init_4 : decode cX12_init 4 = .ok (.aload_n 0, 1) := by decide +kernel
theorem dX12_init_5 : decode cX12_init 5 = .ok (.bipush 7, 2) := by decide +kernel
theorem dX12_init_7 : decode cX12_init 7 = .ok (.newarray .int, 2) := by decide +kernel
theorem dX12_init_9 : decode cX12_init 9 = .ok (.putfield 7, 3) := by decide +kernel
theorem dX12_init_12 : decode cX12_init 12 = .ok (.aload_n 0, 1) := by decide +kernel
theorem dX12_init_13 : decode cX12_init 13 = .ok (.bipush 47, 2) := by decide +kernel
theorem dX12_init_15 : decode cX12_init 15 = .ok (.newarray .int, 2) := by decide +kernel
theorem dX12_init_17 : decode cX12_init 17 = .ok (.putfield 13, 3) := by decide +kernel
theorem dX12_init_20 : decode cX12_init 20 = .ok (.aload_n 0, 1) := by decide +kernel
theorem dX12_init_21 : decode cX12_init 21 = .ok (.bipush 40, 2) := by decide +kernel
theorem dX12_init_23 : decode cX12_init 23 = .ok (.newarray .int, 2) := by decide +kernel
theorem dX12_init_25 : decode cX12_init 25 = .ok (.putfield 16, 3) := by decide +kernel
theorem dX12_init_28 : decode cX12_init 28 = .ok (.aload_n 0, 1) := by decide +kernel
theorem dX12_init_29 : decode cX12_init 29 = .ok (.bipush 40, 2) := by decide +kernel
theorem dX12_init_31 : decode cX12_init 31 = .ok (.newarray .int, 2) := by decide +kernel
theorem dX12_init_33 : decode cX12_init 33 = .ok (.putfield 19, 3) := by decide +kernel
theorem dX12_init_36 : decode cX12_init 36 = .ok (.aload_n 0, 1) := by decide +kernel
theorem dX12_init_37 : decode cX12_init 37 = .ok (.bipush 40, 2) := by decide +kernel
theorem dX12_init_39 : decode cX12_init 39 = .ok (.newarray .int, 2) := by decide +kernel
theorem dX12_init_41 : decode cX12_init 41 = .ok (.putfield 22, 3) := by decide +kernel
theorem dX12_init_44 : decode cX12_init 44 = .ok (.aload_n 0, 1) := by decide +kernel
theorem dX12_init_45 : decode cX12_init 45 = .ok (.sipush 480, 3) := by decide +kernel
theorem dX12_init_48 : decode cX12_init 48 = .ok (.newarray .int, 2) := by decide +kernel
theorem dX12_init_50 : decode cX12_init 50 = .ok (.putfield 25, 3) := by decide +kernel
theorem dX12_init_53 : decode cX12_init 53 = .ok (.aload_n 0, 1) := by decide +kernel
theorem dX12_init_54 : decode cX12_init 54 = .ok (.bipush 12, 2) := by decide +kernel
theorem dX12_init_56 : decode cX12_init 56 = .ok (.newarray .int, 2) := by decide +kernel
theorem dX12_init_58 : decode cX12_init 58 = .ok (.putfield 28, 3) := by decide +kernel
theorem dX12_init_61 : decode cX12_init 61 = .ok (.aload_n 0, 1) := by decide +kernel
theorem dX12_init_62 : decode cX12_init 62 = .ok (.sipush 160, 3) := by decide +kernel
theorem dX12_init_65 : decode cX12_init 65 = .ok (.newarray .int, 2) := by decide +kernel
theorem dX12_init_67 : decode cX12_init 67 = .ok (.putfield 31, 3) := by decide +kernel
theorem dX12_init_70 : decode cX12_init 70 = .ok (.aload_n 0, 1) := by decide +kernel
theorem dX12_init_71 : decode cX12_init 71 = .ok (.iconst 4, 1) := by decide +kernel
theorem dX12_init_72 : decode cX12_init 72 = .ok (.newarray .int, 2) := by decide +kernel
theorem dX12_init_74 : decode cX12_init 74 = .ok (.putfield 34, 3) := by decide +kernel
theorem dX12_init_77 : decode cX12_init 77 = .ok (.aload_n 0, 1) := by decide +kernel
theorem dX12_init_78 : decode cX12_init 78 = .ok (.bipush 8, 2) := by decide +kernel
theorem dX12_init_80 : decode cX12_init 80 = .ok (.newarray .int, 2) := by decide +kernel
theorem dX12_init_82 : decode cX12_init 82 = .ok (.putfield 37, 3) := by decide +kernel
theorem dX12_init_85 : decode cX12_init 85 = .ok (.aload_n 0, 1) := by decide +kernel
theorem dX12_init_86 : decode cX12_init 86 = .ok (.bipush 12, 2) := by decide +kernel
theorem dX12_init_88 : decode cX12_init 88 = .ok (.newarray .boolean, 2) := by decide +kernel
theorem dX12_init_90 : decode cX12_init 90 = .ok (.putfield 40, 3) := by decide +kernel
theorem dX12_init_93 : decode cX12_init 93 = .ok (.aload_n 0, 1) := by decide +kernel
theorem dX12_init_94 : decode cX12_init 94 = .ok (.iconst 4, 1) := by decide +kernel
theorem dX12_init_95 : decode cX12_init 95 = .ok (.newarray .boolean, 2) := by decide +kernel
theorem dX12_init_97 : decode cX12_init 97 = .ok (.putfield 44, 3) := by decide +kernel
theorem dX12_init_100 : decode cX12_init 100 = .ok (.aload_n 0, 1) := by decide +kernel
theorem dX12_init_101 : decode cX12_init 101 = .ok (.bipush 44, 2) := by decide +kernel
theorem dX12_init_103 : decode cX12_init 103 = .ok (.newarray .int, 2) := by decide +kernel
theorem dX12_init_105 : decode cX12_init 105 = .ok (.putfield 47, 3) := by decide +kernel
theorem dX12_init_108 : decode cX12_init 108 = .ok (.aload_n 0, 1) := by decide +kernel
theorem dX12_init_109 : decode cX12_init 109 = .ok (.bipush 44, 2) := by decide +kernel
theorem dX12_init_111 : decode cX12_init 111 = .ok (.newarray .int, 2) := by decide +kernel
theorem dX12_init_113 : decode cX12_init 113 = .ok (.putfield 50, 3) := by decide +kernel
theorem dX12_init_116 : decode cX12_init 116 = .ok (.aload_n 0, 1) := by decide +kernel
theorem dX12_init_117 : decode cX12_init 117 = .ok (.iconst 4, 1) := by decide +kernel
theorem dX12_init_118 : decode cX12_init 118 = .ok (.newarray .int, 2) := by decide +kernel
theorem dX12_init_120 : decode cX12_init 120 = .ok (.putfield 53, 3) := by decide +kernel
theorem dX12_init_123 : decode cX12_init 123 = .ok (.aload_n 0, 1) := by decide +kernel
theorem dX12_init_124 : decode cX12_init 124 = .ok (.iconst 4, 1) := by decide +kernel
theorem dX12_init_125 : decode cX12_init 125 = .ok (.newarray .int, 2) := by decide +kernel
theorem dX12_init_127 : decode cX12_init 127 = .ok (.putfield 56, 3) := by decide +kernel
theorem dX12_init_130 : decode cX12_init 130 = .ok (.aload_n 0, 1) := by decide +kernel
theorem dX12_init_131 : decode cX12_init 131 = .ok (.iconst 4, 1) := by decide +kernel
theorem dX12_init_132 : decode cX12_init 132 = .ok (.newarray .int, 2) := by decide +kernel
theorem dX12_init_134 : decode cX12_init 134 = .ok (.putfield 59, 3) := by decide +kernel
theorem dX12_init_137 : decode cX12_init 137 = .ok (.aload_n 0, 1) := by decide +kernel
theorem dX12_init_138 : decode cX12_init 138 = .ok (.sipush 4096, 3) := by decide +kernel
theorem dX12_init_141 : decode cX12_init 141 = .ok (.newarray .int, 2) := by decide +kernel
theorem dX12_init_143 : decode cX12_init 143 = .ok (.putfield 62, 3) := by decide +kernel
theorem dX12_init_146 : decode cX12_init 146 = .ok (.aload_n 0, 1) := by decide +kernel
theorem dX12_init_147 : decode cX12_init 147 = .ok (.bipush 16, 2) := by decide +kernel
theorem dX12_init_149 : decode cX12_init 149 = .ok (.newarray .boolean, 2) := by decide +kernel
theorem dX12_init_151 : decode cX12_init 151 = .ok (.putfield 65, 3) := by decide +kernel
theorem dX12_init_154 : decode cX12_init 154 = .ok (.aload_n 0, 1) := by decide +kernel
theorem dX12_init_155 : decode cX12_init 155 = .ok (.sipush 256, 3) := by decide +kernel
theorem dX12_init_158 : decode cX12_init 158 = .ok (.newarray .boolean, 2) := by decide +kernel
theorem dX12_init_160 : decode cX12_init 160 = .ok (.putfield 68, 3) := by decide +kernel
theorem dX12_init_163 : decode cX12_init 163 = .ok (.aload_n 0, 1) := by decide +kernel
theorem dX12_init_164 : decode cX12_init 164 = .ok (.bipush 16, 2) := by decide +kernel
theorem dX12_init_166 : decode cX12_init 166 = .ok (.newarray .boolean, 2) := by decide +kernel
theorem dX12_init_168 : decode cX12_init 168 = .ok (.putfield 71, 3) := by decide +kernel
theorem dX12_init_171 : decode cX12_init 171 = .ok (.aload_n 0, 1) := by decide +kernel
theorem dX12_init_172 : decode cX12_init 172 = .ok (.bipush 16, 2) := by decide +kernel
theorem dX12_init_174 : decode cX12_init 174 = .ok (.newarray .boolean, 2) := by decide +kernel
theorem dX12_init_176 : decode cX12_init 176 = .ok (.putfield 74, 3) := by decide +kernel
theorem dX12_init_179 : decode cX12_init 179 = .ok (.aload_n 0, 1) := by decide +kernel
theorem dX12_init_180 : decode cX12_init 180 = .ok (.bipush 12, 2) := by decide +kernel
theorem dX12_init_182 : decode cX12_init 182 = .ok (.newarray .int, 2) := by decide +kernel
theorem dX12_init_184 : decode cX12_init 184 = .ok (.putfield 77, 3) := by decide +kernel
theorem dX12_init_187 : decode cX12_init 187 = .ok (.aload_n 0, 1) := by decide +kernel
theorem dX12_init_188 : decode cX12_init 188 = .ok (.bipush 60, 2) := by decide +kernel
theorem dX12_init_190 : decode cX12_init 190 = .ok (.newarray .int, 2) := by decide +kernel
theorem dX12_init_192 : decode cX12_init 192 = .ok (.putfield 80, 3) := by decide +kernel
theorem dX12_init_195 : decode cX12_init 195 = .ok (.aload_n 0, 1) := by decide +kernel
theorem dX12_init_196 : decode cX12_init 196 = .ok (.bipush 47, 2) := by decide +kernel
theorem dX12_init_198 : decode cX12_init 198 = .ok (.newarray .int, 2) := by decide +kernel
theorem dX12_init_200 : decode cX12_init 200 = .ok (.putfield 83, 3) := by decide +kernel
theorem dX12_init_203 : decode cX12_init 203 = .ok (.aload_n 0, 1) := by decide +kernel
theorem dX12_init_204 : decode cX12_init 204 = .ok (.sipush 480, 3) := by decide +kernel
theorem dX12_init_207 : decode cX12_init 207 = .ok (.newarray .int, 2) := by decide +kernel
theorem dX12_init_209 : decode cX12_init 209 = .ok (.putfield 86, 3) := by decide +kernel
theorem dX12_init_212 : decode cX12_init 212 = .ok (.aload_n 0, 1) := by decide +kernel
theorem dX12_init_213 : decode cX12_init 213 = .ok (.bipush 12, 2) := by decide +kernel
theorem dX12_init_215 : decode cX12_init 215 = .ok (.newarray .int, 2) := by decide +kernel
theorem dX12_init_217 : decode cX12_init 217 = .ok (.putfield 89, 3) := by decide +kernel
theorem dX12_init_220 : decode cX12_init 220 = .ok (.aload_n 0, 1) := by decide +kernel
theorem dX12_init_221 : decode cX12_init 221 = .ok (.sipush 160, 3) := by decide +kernel
theorem dX12_init_224 : decode cX12_init 224 = .ok (.newarray .int, 2) := by decide +kernel
theorem dX12_init_226 : decode cX12_init 226 = .ok (.putfield 92, 3) := by decide +kernel
theorem dX12_init_229 : decode cX12_init 229 = .ok (.aload_n 0, 1) := by decide +kernel
theorem dX12_init_230 : decode cX12_init 230 = .ok (.iconst 4, 1) := by decide +kernel
theorem dX12_init_231 : decode cX12_init 231 = .ok (.newarray .int, 2) := by decide +kernel
theorem dX12_init_233 : decode cX12_init 233 = .ok (.putfield 95, 3) := by decide +kernel
theorem dX12_init_236 : decode cX12_init 236 = .ok (.aload_n 0, 1) := by decide +kernel
theorem dX12_init_237 : decode cX12_init 237 = .ok (.bipush 60, 2) := by decide +kernel
theorem dX12_init_239 : decode cX12_init 239 = .ok (.newarray .int, 2) := by decide +kernel
theorem dX12_init_241 : decode cX12_init 241 = .ok (.putfield 98, 3) := by decide +kernel
theorem dX12_init_244 : decode cX12_init 244 = .ok (.aload_n 0, 1) := by decide +kernel
theorem dX12_init_245 : decode cX12_init 245 = .ok (.bipush 12, 2) := by decide +kernel
theorem dX12_init_247 : decode cX12_init 247 = .ok (.newarray .boolean, 2) := by decide +kernel
theorem dX12_init_249 : decode cX12_init 249 = .ok (.putfield 101, 3) := by decide +kernel
theorem dX12_init_252 : decode cX12_init 252 = .ok (.aload_n 0, 1) := by decide +kernel
theorem dX12_init_253 : decode cX12_init 253 = .ok (.iconst 4, 1) := by decide +kernel
theorem dX12_init_254 : decode cX12_init 254 = .ok (.newarray .boolean, 2) := by decide +kernel
theorem dX12_init_256 : decode cX12_init 256 = .ok (.putfield 104, 3) := by decide +kernel
theorem dX12_init_259 : decode cX12_init 259 = .ok (.iconst 0, 1) := by decide +kernel
theorem dX12_init_260 : decode cX12_init 260 = .ok (.istore_n 1, 1) := by decide +kernel
theorem dX12_init_261 : decode cX12_init 261 = .ok (.iload_n 1, 1) := by decide +kernel
theorem dX12_init_262 : decode cX12_init 262 = .ok (.bipush 16, 2) := by decide +kernel
theorem dX12_init_264 : decode cX12_init 264 = .ok (.if_icmp .ge 20, 3) := by decide +kernel
theorem dX12_init_267 : decode cX12_init 267 = .ok (.aload_n 0, 1) := by decide +kernel
theorem dX12_init_268 : decode cX12_init 268 = .ok (.getfield 13, 3) := by decide +kernel
theorem dX12_init_271 : decode cX12_init 271 = .ok (.bipush 24, 2) := by decide +kernel
theorem dX12_init_273 : decode cX12_init 273 = .ok (.iload_n 1, 1) := by decide +kernel
theorem dX12_init_274 : decode cX12_init 274 = .ok (.iadd, 1) := by decide +kernel
theorem dX12_init_275 : decode cX12_init 275 = .ok (.bipush 99, 2) := by decide +kernel
theorem dX12_init_277 : decode cX12_init 277 = .ok (.iastore, 1) := by decide +kernel
theorem dX12_init_278 : decode cX12_init 278 = .ok (.iinc 1 1, 3) := by decide +kernel
theorem dX12_init_281 : decode cX12_init 281 = .ok (.goto (-20), 3) := by decide +kernel
theorem dX12_init_284 : decode cX12_init 284 = .ok (.aload_n 0, 1) := by decide +kernel
theorem dX12_init_285 : decode cX12_init 285 = .ok (.getfield 13, 3) := by decide +kernel
theorem dX12_init_288 : decode cX12_init 288 = .ok (.bipush 40, 2) := by decide +kernel
theorem dX12_init_290 : decode cX12_init 290 = .ok (.bipush 10, 2) := by decide +kernel
theorem dX12_init_292 : decode cX12_init 292 = .ok (.iastore, 1) := by decide +kernel
theorem dX12_init_293 : decode cX12_init 293 = .ok (.aload_n 0, 1) := by decide +kernel
theorem dX12_init_294 : decode cX12_init 294 = .ok (.getfield 13, 3) := by decide +kernel
theorem dX12_init_297 : decode cX12_init 297 = .ok (.bipush 41, 2) := by decide +kernel
theorem dX12_init_299 : decode cX12_init 299 = .ok (.bipush 100, 2) := by decide +kernel
theorem dX12_init_301 : decode cX12_init 301 = .ok (.iastore, 1) := by decide +kernel
theorem dX12_init_302 : decode cX12_init 302 = .ok (.aload_n 0, 1) := by decide +kernel
theorem dX12_init_303 : decode cX12_init 303 = .ok (.getfield 13, 3) := by decide +kernel
theorem dX12_init_306 : decode cX12_init 306 = .ok (.bipush 42, 2) := by decide +kernel
theorem dX12_init_308 : decode cX12_init 308 = .ok (.iconst 4, 1) := by decide +kernel
theorem dX12_init_309 : decode cX12_init 309 = .ok (.iastore, 1) := by decide +kernel
theorem dX12_init_310 : decode cX12_init 310 = .ok (.return_, 1) := by decide +kernel
theorem dX12_no_0 : decode cX12_no 0 = .ok (.aload_n 0, 1) := by decide +kernel
theorem dX12_no_1 : decode cX12_no 1 = .ok (.getfield 7, 3) := by decide +kernel
theorem dX12_no_4 : decode cX12_no 4 = .ok (.iload_n 1, 1) := by decide +kernel
theorem dX12_no_5 : decode cX12_no 5 = .ok (.ineg, 1) := by decide +kernel
theorem dX12_no_6 : decode cX12_no 6 = .ok (.dup2, 1) := by decide +kernel
theorem dX12_no_7 : decode cX12_no 7 = .ok (.iaload, 1) := by decide +kernel
theorem dX12_no_8 : decode cX12_no 8 = .ok (.iconst 1, 1) := by decide +kernel
theorem dX12_no_9 : decode cX12_no 9 = .ok (.iadd, 1) := by decide +kernel
theorem dX12_no_10 : decode cX12_no 10 = .ok (.iastore, 1) := by decide +kernel
theorem dX12_no_11 : decode cX12_no 11 = .ok (.iload_n 1, 1) := by decide +kernel
theorem dX12_no_12 : decode cX12_no 12 = .ok (.ireturn, 1) := by decide +kernel
theorem dX12_isIn_0 : decode cX12_isIn 0 = .ok (.lload_n 0, 1) := by decide +kernel
theorem dX12_isIn_1 : decode cX12_isIn 1 = .ok (.lload_n 2, 1) := by decide +kernel
theorem dX12_isIn_2 : decode cX12_isIn 2 = .ok (.lcmp, 1) := by decide +kernel
theorem dX12_isIn_3 : decode cX12_isIn 3 = .ok (.ifCond .lt 14, 3) := by decide +kernel
theorem dX12_isIn_6 : decode cX12_isIn 6 = .ok (.lload_n 0, 1) := by decide +kernel
theorem dX12_isIn_7 : decode cX12_isIn 7 = .ok (.lload 4, 2) := by decide +kernel
theorem dX12_isIn_9 : decode cX12_isIn 9 = .ok (.lcmp, 1) := by decide +kernel
theorem dX12_isIn_10 : decode cX12_isIn 10 = .ok (.ifCond .gt 7, 3) := by decide +kernel
theorem dX12_isIn_13 : decode cX12_isIn 13 = .ok (.iconst 1, 1) := by decide +kernel
theorem dX12_isIn_14 : decode cX12_isIn 14 = .ok (.goto 4, 3) := by decide +kernel
theorem dX12_isIn_17 : decode cX12_isIn 17 = .ok (.iconst 0, 1) := by decide +kernel
theorem dX12_isIn_18 : decode cX12_isIn 18 = .ok (.ireturn, 1) := by decide +kernel
theorem dX12_outOf_0 : decode cX12_outOf 0 = .ok (.lload_n 0, 1) := by decide +kernel
theorem dX12_outOf_1 : decode cX12_outOf 1 = .ok (.lload_n 2, 1) := by decide +kernel
theorem dX12_outOf_2 : decode cX12_outOf 2 = .ok (.lcmp, 1) := by decide +kernel
theorem dX12_outOf_3 : decode cX12_outOf 3 = .ok (.ifCond .ge 8, 3) := by decide +kernel
theorem dX12_outOf_6 : decode cX12_outOf 6 = .ok (.bipush (-4), 2) := by decide +kernel
theorem dX12_outOf_8 : decode cX12_outOf 8 = .ok (.goto 16, 3) := by decide +kernel
theorem dX12_outOf_11 : decode cX12_outOf 11 = .ok (.lload_n 0, 1) := by decide +kernel
theorem dX12_outOf_12 : decode cX12_outOf 12 = .ok (.lload 4, 2) := by decide +kernel
theorem dX12_outOf_14 : decode cX12_outOf 14 = .ok (.lcmp, 1) := by decide +kernel
theorem dX12_outOf_15 : decode cX12_outOf 15 = .ok (.ifCond .le 8, 3) := by decide +kernel
theorem dX12_outOf_18 : decode cX12_outOf 18 = .ok (.bipush (-6), 2) := by decide +kernel
theorem dX12_outOf_20 : decode cX12_outOf 20 = .ok (.goto 4, 3) := by decide +kernel
theorem dX12_outOf_23 : decode cX12_outOf 23 = .ok (.iconst 0, 1) := by decide +kernel
theorem dX12_outOf_24 : decode cX12_outOf 24 = .ok (.ireturn, 1) := by decide +kernel
theorem dX12_isThere_0 : decode cX12_isThere 0 = .ok (.iload_n 1, 1) := by decide +kernel
theorem dX12_isThere_1 : decode cX12_isThere 1 = .ok (.ifCond .lt 25, 3) := by decide +kernel
theorem dX12_isThere_4 : decode cX12_isThere 4 = .ok (.iload_n 1, 1) := by decide +kernel
theorem dX12_isThere_5 : decode cX12_isThere 5 = .ok (.iconst 4, 1) := by decide +kernel
theorem dX12_isThere_6 : decode cX12_isThere 6 = .ok (.if_icmp .ge 20, 3) := by decide +kernel
theorem dX12_isThere_9 : decode cX12_isThere 9 = .ok (.aload_n 0, 1) := by decide +kernel
theorem dX12_isThere_10 : decode cX12_isThere 10 = .ok (.getfield 13, 3) := by decide +kernel
theorem dX12_isThere_13 : decode cX12_isThere 13 = .ok (.bipush 43, 2) := by decide +kernel
theorem dX12_isThere_15 : decode cX12_isThere 15 = .ok (.iload_n 1, 1) := by decide +kernel
theorem dX12_isThere_16 : decode cX12_isThere 16 = .ok (.iadd, 1) := by decide +kernel
theorem dX12_isThere_17 : decode cX12_isThere 17 = .ok (.iaload, 1) := by decide +kernel
theorem dX12_isThere_18 : decode cX12_isThere 18 = .ok (.iconst 1, 1) := by decide +kernel
theorem dX12_isThere_19 : decode cX12_isThere 19 = .ok (.if_icmp .ne 7, 3) := by decide +kernel
theorem dX12_isThere_22 : decode cX12_isThere 22 = .ok (.iconst 1, 1) := by decide +kernel
theorem dX12_isThere_23 : decode cX12_isThere 23 = .ok (.goto 4, 3) := by decide +kernel
theorem dX12_isThere_26 : decode cX12_isThere 26 = .ok (.iconst 0, 1) := by decide +kernel
theorem dX12_isThere_27 : decode cX12_isThere 27 = .ok (.ireturn, 1) := by decide +kernel
theorem dX12_harbours_0 : decode cX12_harbours 0 = .ok (.aload_n 0, 1) := by decide +kernel
theorem dX12_harbours_1 : decode cX12_harbours 1 = .ok (.getfield 13, 3) := by decide +kernel
theorem dX12_harbours_4 : decode cX12_harbours 4 = .ok (.bipush 43, 2) := by decide +kernel
theorem dX12_harbours_6 : decode cX12_harbours 6 = .ok (.iaload, 1) := by decide +kernel
theorem dX12_harbours_7 : decode cX12_harbours 7 = .ok (.aload_n 0, 1) := by decide +kernel
theorem dX12_harbours_8 : decode cX12_harbours 8 = .ok (.getfield 13, 3) := by decide +kernel
theorem dX12_harbours_11 : decode cX12_harbours 11 = .ok (.bipush 44, 2) := by decide +kernel
theorem dX12_harbours_13 : decode cX12_harbours 13 = .ok (.iaload, 1) := by decide +kernel
theorem dX12_harbours_14 : decode cX12_harbours 14 = .ok (.iadd, 1) := by decide +kernel
theorem dX12_harbours_15 : decode cX12_harbours 15 = .ok (.aload_n 0, 1) := by decide +kernel
theorem dX12_harbours_16 : decode cX12_harbours 16 = .ok (.getfield 13, 3) := by decide +kernel
theorem dX12_harbours_19 : decode cX12_harbours 19 = .ok (.bipush 45, 2) := by decide +kernel
theorem dX12_harbours_21 : decode cX12_harbours 21 = .ok (.iaload, 1) := by decide +kernel
theorem dX12_harbours_22 : decode cX12_harbours 22 = .ok (.iadd, 1) := by decide +kernel
theorem dX12_harbours_23 : decode cX12_harbours 23 = .ok (.aload_n 0, 1) := by decide +kernel
theorem dX12_harbours_24 : decode cX12_harbours 24 = .ok (.getfield 13, 3) := by decide +kernel
theorem dX12_harbours_27 : decode cX12_harbours 27 = .ok (.bipush 46, 2) := by decide +kernel
theorem dX12_harbours_29 : decode cX12_harbours 29 = .ok (.iaload, 1) := by decide +kernel
theorem dX12_harbours_30 : decode cX12_harbours 30 = .ok (.iadd, 1) := by decide +kernel
theorem dX12_harbours_31 : decode cX12_harbours 31 = .ok (.ireturn, 1) := by decide +kernel
theorem dX12_harbour_0 : decode cX12_harbour 0 = .ok (.iload_n 1, 1) := by decide +kernel
theorem dX12_harbour_1 : decode cX12_harbour 1 = .ok (.i2l, 1) := by decide +kernel
theorem dX12_harbour_2 : decode cX12_harbour 2 = .ok (.lconst 0, 1) := by decide +kernel
theorem dX12_harbour_3 : decode cX12_harbour 3 = .ok (.ldc2_w 107, 3) := by decide +kernel
theorem dX12_harbour_6 : decode cX12_harbour 6 = .ok (.invokestatic 109, 3) := by decide +kernel
theorem dX12_harbour_9 : decode cX12_harbour 9 = .ok (.ifCond .ne 9, 3) := by decide +kernel
theorem dX12_harbour_12 : decode cX12_harbour 12 = .ok (.aload_n 0, 1) := by decide +kernel
theorem dX12_harbour_13 : decode cX12_harbour 13 = .ok (.iconst (-1), 1) := by decide +kernel
theorem dX12_harbour_14 : decode cX12_harbour 14 = .ok (.invokevirtual 113, 3) := by decide +kernel
theorem dX12_harbour_17 : decode cX12_harbour 17 = .ok (.ireturn, 1) := by decide +kernel
theorem dX12_harbour_18 : decode cX12_harbour 18 = .ok (.aload_n 0, 1) := by decide +kernel
theorem dX12_harbour_19 : decode cX12_harbour 19 = .ok (.iload_n 1, 1) := by decide +kernel
theorem dX12_harbour_20 : decode cX12_harbour 20 = .ok (.invokevirtual 117, 3) := by decide +kernel
theorem dX12_harbour_23 : decode cX12_harbour 23 = .ok (.ifCond .eq 10, 3) := by decide +kernel
theorem dX12_harbour_26 : decode cX12_harbour 26 = .ok (.aload_n 0, 1) := by decide +kernel
theorem dX12_harbour_27 : decode cX12_harbour 27 = .ok (.bipush (-3), 2) := by decide +kernel
theorem dX12_harbour_29 : decode cX12_harbour 29 = .ok (.invokevirtual 113, 3) := by decide +kernel
theorem dX12_harbour_32 : decode cX12_harbour 32 = .ok (.ireturn, 1) := by decide +kernel
theorem dX12_harbour_33 : decode cX12_harbour 33 = .ok (.aload_n 0, 1) := by decide +kernel
theorem dX12_harbour_34 : decode cX12_harbour 34 = .ok (.getfield 13, 3) := by decide +kernel
theorem dX12_harbour_37 : decode cX12_harbour 37 = .ok (.bipush 43, 2) := by decide +kernel
theorem dX12_harbour_39 : decode cX12_harbour 39 = .ok (.iload_n 1, 1) := by decide +kernel
theorem dX12_harbour_40 : decode cX12_harbour 40 = .ok (.iadd, 1) := by decide +kernel
theorem dX12_harbour_41 : decode cX12_harbour 41 = .ok (.iconst 1, 1) := by decide +kernel
theorem dX12_harbour_42 : decode cX12_harbour 42 = .ok (.iastore, 1) := by decide +kernel
theorem dX12_harbour_43 : decode cX12_harbour 43 = .ok (.iconst 0, 1) := by decide +kernel
theorem dX12_harbour_44 : decode cX12_harbour 44 = .ok (.istore_n 2, 1) := by decide +kernel
theorem dX12_harbour_45 : decode cX12_harbour 45 = .ok (.iload_n 2, 1) := by decide +kernel
theorem dX12_harbour_46 : decode cX12_harbour 46 = .ok (.bipush 6, 2) := by decide +kernel
theorem dX12_harbour_48 : decode cX12_harbour 48 = .ok (.if_icmp .ge 21, 3) := by decide +kernel
theorem dX12_harbour_51 : decode cX12_harbour 51 = .ok (.aload_n 0, 1) := by decide +kernel
theorem dX12_harbour_52 : decode cX12_harbour 52 = .ok (.getfield 13, 3) := by decide +kernel
theorem dX12_harbour_55 : decode cX12_harbour 55 = .ok (.bipush 6, 2) := by decide +kernel
theorem dX12_harbour_57 : decode cX12_harbour 57 = .ok (.iload_n 1, 1) := by decide +kernel
theorem dX12_harbour_58 : decode cX12_harbour 58 = .ok (.imul, 1) := by decide +kernel
theorem dX12_harbour_59 : decode cX12_harbour 59 = .ok (.iload_n 2, 1) := by decide +kernel
theorem dX12_harbour_60 : decode cX12_harbour 60 = .ok (.iadd, 1) := by decide +kernel
theorem dX12_harbour_61 : decode cX12_harbour 61 = .ok (.iconst 0, 1) := by decide +kernel
theorem dX12_harbour_62 : decode cX12_harbour 62 = .ok (.iastore, 1) := by decide +kernel
theorem dX12_harbour_63 : decode cX12_harbour 63 = .ok (.iinc 2 1, 3) := by decide +kernel
theorem dX12_harbour_66 : decode cX12_harbour 66 = .ok (.goto (-21), 3) := by decide +kernel
theorem dX12_harbour_69 : decode cX12_harbour 69 = .ok (.aload_n 0, 1) := by decide +kernel
theorem dX12_harbour_70 : decode cX12_harbour 70 = .ok (.iconst 0, 1) := by decide +kernel
theorem dX12_harbour_71 : decode cX12_harbour 71 = .ok (.putfield 121, 3) := by decide +kernel
theorem dX12_harbour_74 : decode cX12_harbour 74 = .ok (.iconst 1, 1) := by decide +kernel
theorem dX12_harbour_75 : decode cX12_harbour 75 = .ok (.ireturn, 1) := by decide +kernel
theorem dX12_becomes_0 : decode cX12_becomes 0 = .ok (.aload_n 0, 1) := by decide +kernel
theorem dX12_becomes_1 : decode cX12_becomes 1 = .ok (.getfield 125, 3) := by decide +kernel
theorem dX12_becomes_4 : decode cX12_becomes 4 = .ok (.bipush 40, 2) := by decide +kernel
theorem dX12_becomes_6 : decode cX12_becomes 6 = .ok (.if_icmp .ne 55, 3) := by decide +kernel
theorem dX12_becomes_9 : decode cX12_becomes 9 = .ok (.iconst 1, 1) := by decide +kernel
theorem dX12_becomes_10 : decode cX12_becomes 10 = .ok (.istore_n 3, 1) := by decide +kernel
theorem dX12_becomes_11 : decode cX12_becomes 11 = .ok (.iload_n 3, 1) := by decide +kernel
theorem dX12_becomes_12 : decode cX12_becomes 12 = .ok (.bipush 40, 2) := by decide +kernel
theorem dX12_becomes_14 : decode cX12_becomes 14 = .ok (.if_icmp .ge 37, 3) := by decide +kernel
theorem dX12_becomes_17 : decode cX12_becomes 17 = .ok (.aload_n 0, 1) := by decide +kernel
theorem dX12_becomes_18 : decode cX12_becomes 18 = .ok (.getfield 16, 3) := by decide +kernel
theorem dX12_becomes_21 : decode cX12_becomes 21 = .ok (.iload_n 3, 1) := by decide +kernel
theorem dX12_becomes_22 : decode cX12_becomes 22 = .ok (.iconst 1, 1) := by decide +kernel
theorem dX12_becomes_23 : decode cX12_becomes 23 = .ok (.isub, 1) := by decide +kernel
theorem dX12_becomes_24 : decode cX12_becomes 24 = .ok (.aload_n 0, 1) := by decide +kernel
theorem dX12_becomes_25 : decode cX12_becomes 25 = .ok (.getfield 16, 3) := by decide +kernel
theorem dX12_becomes_28 : decode cX12_becomes 28 = .ok (.iload_n 3, 1) := by decide +kernel
theorem dX12_becomes_29 : decode cX12_becomes 29 = .ok (.iaload, 1) := by decide +kernel
theorem dX12_becomes_30 : decode cX12_becomes 30 = .ok (.iastore, 1) := by decide +kernel
theorem dX12_becomes_31 : decode cX12_becomes 31 = .ok (.aload_n 0, 1) := by decide +kernel
theorem dX12_becomes_32 : decode cX12_becomes 32 = .ok (.getfield 19, 3) := by decide +kernel
theorem dX12_becomes_35 : decode cX12_becomes 35 = .ok (.iload_n 3, 1) := by decide +kernel
theorem dX12_becomes_36 : decode cX12_becomes 36 = .ok (.iconst 1, 1) := by decide +kernel
theorem dX12_becomes_37 : decode cX12_becomes 37 = .ok (.isub, 1) := by decide +kernel
theorem dX12_becomes_38 : decode cX12_becomes 38 = .ok (.aload_n 0, 1) := by decide +kernel
theorem dX12_becomes_39 : decode cX12_becomes 39 = .ok (.getfield 19, 3) := by decide +kernel
theorem dX12_becomes_42 : decode cX12_becomes 42 = .ok (.iload_n 3, 1) := by decide +kernel
theorem dX12_becomes_43 : decode cX12_becomes 43 = .ok (.iaload, 1) := by decide +kernel
theorem dX12_becomes_44 : decode cX12_becomes 44 = .ok (.iastore, 1) := by decide +kernel
theorem dX12_becomes_45 : decode cX12_becomes 45 = .ok (.iinc 3 1, 3) := by decide +kernel
theorem dX12_becomes_48 : decode cX12_becomes 48 = .ok (.goto (-37), 3) := by decide +kernel
theorem dX12_becomes_51 : decode cX12_becomes 51 = .ok (.aload_n 0, 1) := by decide +kernel
theorem dX12_becomes_52 : decode cX12_becomes 52 = .ok (.dup, 1) := by decide +kernel
theorem dX12_becomes_53 : decode cX12_becomes 53 = .ok (.getfield 125, 3) := by decide +kernel
theorem dX12_becomes_56 : decode cX12_becomes 56 = .ok (.iconst 1, 1) := by decide +kernel
theorem dX12_becomes_57 : decode cX12_becomes 57 = .ok (.isub, 1) := by decide +kernel
theorem dX12_becomes_58 : decode cX12_becomes 58 = .ok (.putfield 125, 3) := by decide +kernel
theorem dX12_becomes_61 : decode cX12_becomes 61 = .ok (.aload_n 0, 1) := by decide +kernel
theorem dX12_becomes_62 : decode cX12_becomes 62 = .ok (.getfield 16, 3) := by decide +kernel
theorem dX12_becomes_65 : decode cX12_becomes 65 = .ok (.aload_n 0, 1) := by decide +kernel
theorem dX12_becomes_66 : decode cX12_becomes 66 = .ok (.getfield 125, 3) := by decide +kernel
theorem dX12_becomes_69 : decode cX12_becomes 69 = .ok (.iload_n 1, 1) := by decide +kernel
theorem dX12_becomes_70 : decode cX12_becomes 70 = .ok (.iastore, 1) := by decide +kernel
theorem dX12_becomes_71 : decode cX12_becomes 71 = .ok (.aload_n 0, 1) := by decide +kernel
theorem dX12_becomes_72 : decode cX12_becomes 72 = .ok (.getfield 19, 3) := by decide +kernel
theorem dX12_becomes_75 : decode cX12_becomes 75 = .ok (.aload_n 0, 1) := by decide +kernel
theorem dX12_becomes_76 : decode cX12_becomes 76 = .ok (.getfield 125, 3) := by decide +kernel
theorem dX12_becomes_79 : decode cX12_becomes 79 = .ok (.aload_n 0, 1) := by decide +kernel
theorem dX12_becomes_80 : decode cX12_becomes 80 = .ok (.getfield 13, 3) := by decide +kernel
theorem dX12_becomes_83 : decode cX12_becomes 83 = .ok (.iload_n 1, 1) := by decide +kernel
theorem dX12_becomes_84 : decode cX12_becomes 84 = .ok (.iaload, 1) := by decide +kernel
theorem dX12_becomes_85 : decode cX12_becomes 85 = .ok (.iastore, 1) := by decide +kernel
theorem dX12_becomes_86 : decode cX12_becomes 86 = .ok (.aload_n 0, 1) := by decide +kernel
theorem dX12_becomes_87 : decode cX12_becomes 87 = .ok (.dup, 1) := by decide +kernel
theorem dX12_becomes_88 : decode cX12_becomes 88 = .ok (.getfield 125, 3) := by decide +kernel
theorem dX12_becomes_91 : decode cX12_becomes 91 = .ok (.iconst 1, 1) := by decide +kernel
theorem dX12_becomes_92 : decode cX12_becomes 92 = .ok (.iadd, 1) := by decide +kernel
theorem dX12_becomes_93 : decode cX12_becomes 93 = .ok (.putfield 125, 3) := by decide +kernel
theorem dX12_becomes_96 : decode cX12_becomes 96 = .ok (.aload_n 0, 1) := by decide +kernel
theorem dX12_becomes_97 : decode cX12_becomes 97 = .ok (.getfield 13, 3) := by decide +kernel
theorem dX12_becomes_100 : decode cX12_becomes 100 = .ok (.iload_n 1, 1) := by decide +kernel
theorem dX12_becomes_101 : decode cX12_becomes 101 = .ok (.iaload, 1) := by decide +kernel
theorem dX12_becomes_102 : decode cX12_becomes 102 = .ok (.istore_n 3, 1) := by decide +kernel
theorem dX12_becomes_103 : decode cX12_becomes 103 = .ok (.aload_n 0, 1) := by decide +kernel
theorem dX12_becomes_104 : decode cX12_becomes 104 = .ok (.getfield 13, 3) := by decide +kernel
theorem dX12_becomes_107 : decode cX12_becomes 107 = .ok (.iload_n 1, 1) := by decide +kernel
theorem dX12_becomes_108 : decode cX12_becomes 108 = .ok (.iload_n 2, 1) := by decide +kernel
theorem dX12_becomes_109 : decode cX12_becomes 109 = .ok (.iastore, 1) := by decide +kernel
theorem dX12_becomes_110 : decode cX12_becomes 110 = .ok (.aload_n 0, 1) := by decide +kernel
theorem dX12_becomes_111 : decode cX12_becomes 111 = .ok (.iconst 0, 1) := by decide +kernel
theorem dX12_becomes_112 : decode cX12_becomes 112 = .ok (.putfield 121, 3) := by decide +kernel
theorem dX12_becomes_115 : decode cX12_becomes 115 = .ok (.iload_n 3, 1) := by decide +kernel
theorem dX12_becomes_116 : decode cX12_becomes 116 = .ok (.ireturn, 1) := by decide +kernel
theorem dX12_tell_0 : decode cX12_tell 0 = .ok (.aload_n 0, 1) := by decide +kernel
theorem dX12_tell_1 : decode cX12_tell 1 = .ok (.iload_n 1, 1) := by decide +kernel
theorem dX12_tell_2 : decode cX12_tell 2 = .ok (.invokevirtual 117, 3) := by decide +kernel
theorem dX12_tell_5 : decode cX12_tell 5 = .ok (.ifCond .ne 9, 3) := by decide +kernel
theorem dX12_tell_8 : decode cX12_tell 8 = .ok (.aload_n 0, 1) := by decide +kernel
theorem dX12_tell_9 : decode cX12_tell 9 = .ok (.iconst (-1), 1) := by decide +kernel
theorem dX12_tell_10 : decode cX12_tell 10 = .ok (.invokevirtual 113, 3) := by decide +kernel
theorem dX12_tell_13 : decode cX12_tell 13 = .ok (.ireturn, 1) := by decide +kernel
theorem dX12_tell_14 : decode cX12_tell 14 = .ok (.iload_n 2, 1) := by decide +kernel
theorem dX12_tell_15 : decode cX12_tell 15 = .ok (.i2l, 1) := by decide +kernel
theorem dX12_tell_16 : decode cX12_tell 16 = .ok (.lconst 0, 1) := by decide +kernel
theorem dX12_tell_17 : decode cX12_tell 17 = .ok (.ldc2_w 129, 3) := by decide +kernel
theorem dX12_tell_20 : decode cX12_tell 20 = .ok (.invokestatic 109, 3) := by decide +kernel
theorem dX12_tell_23 : decode cX12_tell 23 = .ok (.ifCond .ne 10, 3) := by decide +kernel
theorem dX12_tell_26 : decode cX12_tell 26 = .ok (.aload_n 0, 1) := by decide +kernel
theorem dX12_tell_27 : decode cX12_tell 27 = .ok (.bipush (-2), 2) := by decide +kernel
theorem dX12_tell_29 : decode cX12_tell 29 = .ok (.invokevirtual 113, 3) := by decide +kernel
theorem dX12_tell_32 : decode cX12_tell 32 = .ok (.ireturn, 1) := by decide +kernel
theorem dX12_tell_33 : decode cX12_tell 33 = .ok (.iload_n 3, 1) := by decide +kernel
theorem dX12_tell_34 : decode cX12_tell 34 = .ok (.i2l, 1) := by decide +kernel
theorem dX12_tell_35 : decode cX12_tell 35 = .ok (.lconst 0, 1) := by decide +kernel
theorem dX12_tell_36 : decode cX12_tell 36 = .ok (.iload_n 2, 1) := by decide +kernel
theorem dX12_tell_37 : decode cX12_tell 37 = .ok (.iconst 2, 1) := by decide +kernel
theorem dX12_tell_38 : decode cX12_tell 38 = .ok (.if_icmp .ne 9, 3) := by decide +kernel
theorem dX12_tell_41 : decode cX12_tell 41 = .ok (.ldc2_w 131, 3) := by decide +kernel
theorem dX12_tell_44 : decode cX12_tell 44 = .ok (.goto 17, 3) := by decide +kernel
theorem dX12_tell_47 : decode cX12_tell 47 = .ok (.iload_n 2, 1) := by decide +kernel
theorem dX12_tell_48 : decode cX12_tell 48 = .ok (.iconst 5, 1) := by decide +kernel
theorem dX12_tell_49 : decode cX12_tell 49 = .ok (.if_icmp .ne 9, 3) := by decide +kernel
theorem dX12_tell_52 : decode cX12_tell 52 = .ok (.ldc2_w 133, 3) := by decide +kernel
theorem dX12_tell_55 : decode cX12_tell 55 = .ok (.goto 6, 3) := by decide +kernel
theorem dX12_tell_58 : decode cX12_tell 58 = .ok (.ldc2_w 135, 3) := by decide +kernel
theorem dX12_tell_61 : decode cX12_tell 61 = .ok (.invokestatic 137, 3) := by decide +kernel
theorem dX12_tell_64 : decode cX12_tell 64 = .ok (.istore 4, 2) := by decide +kernel
theorem dX12_tell_66 : decode cX12_tell 66 = .ok (.iload 4, 2) := by decide +kernel
theorem dX12_tell_68 : decode cX12_tell 68 = .ok (.ifCond .eq 12, 3) := by decide +kernel
theorem dX12_tell_71 : decode cX12_tell 71 = .ok (.aload_n 0, 1) := by decide +kernel
theorem dX12_tell_72 : decode cX12_tell 72 = .ok (.iload 4, 2) := by decide +kernel
theorem dX12_tell_74 : decode cX12_tell 74 = .ok (.invokevirtual 113, 3) := by decide +kernel
theorem dX12_tell_77 : decode cX12_tell 77 = .ok (.goto 14, 3) := by decide +kernel
theorem dX12_tell_80 : decode cX12_tell 80 = .ok (.aload_n 0, 1) := by decide +kernel
theorem dX12_tell_81 : decode cX12_tell 81 = .ok (.bipush 6, 2) := by decide +kernel
theorem dX12_tell_83 : decode cX12_tell 83 = .ok (.iload_n 1, 1) := by decide +kernel
theorem dX12_tell_84 : decode cX12_tell 84 = .ok (.imul, 1) := by decide +kernel
theorem dX12_tell_85 : decode cX12_tell 85 = .ok (.iload_n 2, 1) := by decide +kernel
theorem dX12_tell_86 : decode cX12_tell 86 = .ok (.iadd, 1) := by decide +kernel
theorem dX12_tell_87 : decode cX12_tell 87 = .ok (.iload_n 3, 1) := by decide +kernel
theorem dX12_tell_88 : decode cX12_tell 88 = .ok (.invokevirtual 141, 3) := by decide +kernel
theorem dX12_tell_91 : decode cX12_tell 91 = .ok (.ireturn, 1) := by decide +kernel
theorem dX12_move_0 : decode cX12_move 0 = .ok (.aload_n 0, 1) := by decide +kernel
theorem dX12_move_1 : decode cX12_move 1 = .ok (.iload_n 1, 1) := by decide +kernel
theorem dX12_move_2 : decode cX12_move 2 = .ok (.invokevirtual 117, 3) := by decide +kernel
theorem dX12_move_5 : decode cX12_move 5 = .ok (.ifCond .eq 16, 3) := by decide +kernel
theorem dX12_move_8 : decode cX12_move 8 = .ok (.aload_n 0, 1) := by decide +kernel
theorem dX12_move_9 : decode cX12_move 9 = .ok (.iload_n 2, 1) := by decide +kernel
theorem dX12_move_10 : decode cX12_move 10 = .ok (.invokevirtual 117, 3) := by decide +kernel
theorem dX12_move_13 : decode cX12_move 13 = .ok (.ifCond .eq 8, 3) := by decide +kernel
theorem dX12_move_16 : decode cX12_move 16 = .ok (.iload_n 1, 1) := by decide +kernel
theorem dX12_move_17 : decode cX12_move 17 = .ok (.iload_n 2, 1) := by decide +kernel
theorem dX12_move_18 : decode cX12_move 18 = .ok (.if_icmp .ne 9, 3) := by decide +kernel
theorem dX12_move_21 : decode cX12_move 21 = .ok (.aload_n 0, 1) := by decide +kernel
theorem dX12_move_22 : decode cX12_move 22 = .ok (.iconst (-1), 1) := by decide +kernel
theorem dX12_move_23 : decode cX12_move 23 = .ok (.invokevirtual 113, 3) := by decide +kernel
theorem dX12_move_26 : decode cX12_move 26 = .ok (.ireturn, 1) := by decide +kernel
theorem dX12_move_27 : decode cX12_move 27 = .ok (.iload_n 3, 1) := by decide +kernel
theorem dX12_move_28 : decode cX12_move 28 = .ok (.i2l, 1) := by decide +kernel
theorem dX12_move_29 : decode cX12_move 29 = .ok (.lconst 0, 1) := by decide +kernel
theorem dX12_move_30 : decode cX12_move 30 = .ok (.ldc2_w 135, 3) := by decide +kernel
theorem dX12_move_33 : decode cX12_move 33 = .ok (.invokestatic 137, 3) := by decide +kernel
theorem dX12_move_36 : decode cX12_move 36 = .ok (.istore 4, 2) := by decide +kernel
theorem dX12_move_38 : decode cX12_move 38 = .ok (.iload 4, 2) := by decide +kernel
theorem dX12_move_40 : decode cX12_move 40 = .ok (.ifCond .eq 12, 3) := by decide +kernel
theorem dX12_move_43 : decode cX12_move 43 = .ok (.aload_n 0, 1) := by decide +kernel
theorem dX12_move_44 : decode cX12_move 44 = .ok (.iload 4, 2) := by decide +kernel
theorem dX12_move_46 : decode cX12_move 46 = .ok (.invokevirtual 113, 3) := by decide +kernel
theorem dX12_move_49 : decode cX12_move 49 = .ok (.goto 16, 3) := by decide +kernel
theorem dX12_move_52 : decode cX12_move 52 = .ok (.aload_n 0, 1) := by decide +kernel
theorem dX12_move_53 : decode cX12_move 53 = .ok (.bipush 24, 2) := by decide +kernel
theorem dX12_move_55 : decode cX12_move 55 = .ok (.iconst 4, 1) := by decide +kernel
theorem dX12_move_56 : decode cX12_move 56 = .ok (.iload_n 1, 1) := by decide +kernel
theorem dX12_move_57 : decode cX12_move 57 = .ok (.imul, 1) := by decide +kernel
theorem dX12_move_58 : decode cX12_move 58 = .ok (.iadd, 1) := by decide +kernel
theorem dX12_move_59 : decode cX12_move 59 = .ok (.iload_n 2, 1) := by decide +kernel
theorem dX12_move_60 : decode cX12_move 60 = .ok (.iadd, 1) := by decide +kernel
theorem dX12_move_61 : decode cX12_move 61 = .ok (.iload_n 3, 1) := by decide +kernel
theorem dX12_move_62 : decode cX12_move 62 = .ok (.invokevirtual 141, 3) := by decide +kernel
theorem dX12_move_65 : decode cX12_move 65 = .ok (.ireturn, 1) := by decide +kernel
theorem dX12_set_0 : decode cX12_set 0 = .ok (.iload_n 1, 1) := by decide +kernel
theorem dX12_set_1 : decode cX12_set 1 = .ok (.i2l, 1) := by decide +kernel
theorem dX12_set_2 : decode cX12_set 2 = .ok (.lconst 0, 1) := by decide +kernel
theorem dX12_set_3 : decode cX12_set 3 = .ok (.ldc2_w 145, 3) := by decide +kernel
theorem dX12_set_6 : decode cX12_set 6 = .ok (.invokestatic 109, 3) := by decide +kernel
theorem dX12_set_9 : decode cX12_set 9 = .ok (.ifCond .ne 10, 3) := by decide +kernel
theorem dX12_set_12 : decode cX12_set 12 = .ok (.aload_n 0, 1) := by decide +kernel
theorem dX12_set_13 : decode cX12_set 13 = .ok (.bipush (-2), 2) := by decide +kernel
theorem dX12_set_15 : decode cX12_set 15 = .ok (.invokevirtual 113, 3) := by decide +kernel
theorem dX12_set_18 : decode cX12_set 18 = .ok (.ireturn, 1) := by decide +kernel
theorem dX12_set_19 : decode cX12_set 19 = .ok (.iload_n 2, 1) := by decide +kernel
theorem dX12_set_20 : decode cX12_set 20 = .ok (.i2l, 1) := by decide +kernel
theorem dX12_set_21 : decode cX12_set 21 = .ok (.iload_n 1, 1) := by decide +kernel
theorem dX12_set_22 : decode cX12_set 22 = .ok (.ifCond .ne 7, 3) := by decide +kernel
theorem dX12_set_25 : decode cX12_set 25 = .ok (.lconst 1, 1) := by decide +kernel
theorem dX12_set_26 : decode cX12_set 26 = .ok (.goto 4, 3) := by decide +kernel
theorem dX12_set_29 : decode cX12_set 29 = .ok (.lconst 0, 1) := by decide +kernel
theorem dX12_set_30 : decode cX12_set 30 = .ok (.iload_n 1, 1) := by decide +kernel
theorem dX12_set_31 : decode cX12_set 31 = .ok (.ifCond .ne 9, 3) := by decide +kernel
theorem dX12_set_34 : decode cX12_set 34 = .ok (.ldc2_w 147, 3) := by decide +kernel
theorem dX12_set_37 : decode cX12_set 37 = .ok (.goto 17, 3) := by decide +kernel
theorem dX12_set_40 : decode cX12_set 40 = .ok (.iload_n 1, 1) := by decide +kernel
theorem dX12_set_41 : decode cX12_set 41 = .ok (.iconst 1, 1) := by decide +kernel
theorem dX12_set_42 : decode cX12_set 42 = .ok (.if_icmp .ne 9, 3) := by decide +kernel
theorem dX12_set_45 : decode cX12_set 45 = .ok (.ldc2_w 131, 3) := by decide +kernel
theorem dX12_set_48 : decode cX12_set 48 = .ok (.goto 6, 3) := by decide +kernel
theorem dX12_set_51 : decode cX12_set 51 = .ok (.ldc2_w 149, 3) := by decide +kernel
theorem dX12_set_54 : decode cX12_set 54 = .ok (.invokestatic 137, 3) := by decide +kernel
theorem dX12_set_57 : decode cX12_set 57 = .ok (.istore_n 3, 1) := by decide +kernel
theorem dX12_set_58 : decode cX12_set 58 = .ok (.iload_n 3, 1) := by decide +kernel
theorem dX12_set_59 : decode cX12_set 59 = .ok (.ifCond .eq 11, 3) := by decide +kernel
theorem dX12_set_62 : decode cX12_set 62 = .ok (.aload_n 0, 1) := by decide +kernel
theorem dX12_set_63 : decode cX12_set 63 = .ok (.iload_n 3, 1) := by decide +kernel
theorem dX12_set_64 : decode cX12_set 64 = .ok (.invokevirtual 113, 3) := by decide +kernel
theorem dX12_set_67 : decode cX12_set 67 = .ok (.goto 12, 3) := by decide +kernel
theorem dX12_set_70 : decode cX12_set 70 = .ok (.aload_n 0, 1) := by decide +kernel
theorem dX12_set_71 : decode cX12_set 71 = .ok (.bipush 40, 2) := by decide +kernel
theorem dX12_set_73 : decode cX12_set 73 = .ok (.iload_n 1, 1) := by decide +kernel
theorem dX12_set_74 : decode cX12_set 74 = .ok (.iadd, 1) := by decide +kernel
theorem dX12_set_75 : decode cX12_set 75 = .ok (.iload_n 2, 1) := by decide +kernel
theorem dX12_set_76 : decode cX12_set 76 = .ok (.invokevirtual 141, 3) := by decide +kernel
theorem dX12_set_79 : decode cX12_set 79 = .ok (.ireturn, 1) := by decide +kernel
theorem dX12_undo_0 : decode cX12_undo 0 = .ok (.aload_n 0, 1) := by decide +kernel
theorem dX12_undo_1 : decode cX12_undo 1 = .ok (.getfield 125, 3) := by decide +kernel
theorem dX12_undo_4 : decode cX12_undo 4 = .ok (.ifCond .ne 10, 3) := by decide +kernel
theorem dX12_undo_7 : decode cX12_undo 7 = .ok (.aload_n 0, 1) := by decide +kernel
theorem dX12_undo_8 : decode cX12_undo 8 = .ok (.bipush (-3), 2) := by decide +kernel
theorem dX12_undo_10 : decode cX12_undo 10 = .ok (.invokevirtual 113, 3) := by decide +kernel
theorem dX12_undo_13 : decode cX12_undo 13 = .ok (.ireturn, 1) := by decide +kernel
theorem dX12_undo_14 : decode cX12_undo 14 = .ok (.aload_n 0, 1) := by decide +kernel
theorem dX12_undo_15 : decode cX12_undo 15 = .ok (.dup, 1) := by decide +kernel
theorem dX12_undo_16 : decode cX12_undo 16 = .ok (.getfield 125, 3) := by decide +kernel
theorem dX12_undo_19 : decode cX12_undo 19 = .ok (.iconst 1, 1) := by decide +kernel
theorem dX12_undo_20 : decode cX12_undo 20 = .ok (.isub, 1) := by decide +kernel
theorem dX12_undo_21 : decode cX12_undo 21 = .ok (.putfield 125, 3) := by decide +kernel
theorem dX12_undo_24 : decode cX12_undo 24 = .ok (.aload_n 0, 1) := by decide +kernel
theorem dX12_undo_25 : decode cX12_undo 25 = .ok (.getfield 13, 3) := by decide +kernel
theorem dX12_undo_28 : decode cX12_undo 28 = .ok (.aload_n 0, 1) := by decide +kernel
theorem dX12_undo_29 : decode cX12_undo 29 = .ok (.getfield 16, 3) := by decide +kernel
theorem dX12_undo_32 : decode cX12_undo 32 = .ok (.aload_n 0, 1) := by decide +kernel
theorem dX12_undo_33 : decode cX12_undo 33 = .ok (.getfield 125, 3) := by decide +kernel
theorem dX12_undo_36 : decode cX12_undo 36 = .ok (.iaload, 1) := by decide +kernel
theorem dX12_undo_37 : decode cX12_undo 37 = .ok (.aload_n 0, 1) := by decide +kernel
theorem dX12_undo_38 : decode cX12_undo 38 = .ok (.getfield 19, 3) := by decide +kernel
theorem dX12_undo_41 : decode cX12_undo 41 = .ok (.aload_n 0, 1) := by decide +kernel
theorem dX12_undo_42 : decode cX12_undo 42 = .ok (.getfield 125, 3) := by decide +kernel
theorem dX12_undo_45 : decode cX12_undo 45 = .ok (.iaload, 1) := by decide +kernel
theorem dX12_undo_46 : decode cX12_undo 46 = .ok (.iastore, 1) := by decide +kernel
theorem dX12_undo_47 : decode cX12_undo 47 = .ok (.aload_n 0, 1) := by decide +kernel
theorem dX12_undo_48 : decode cX12_undo 48 = .ok (.iconst 0, 1) := by decide +kernel
theorem dX12_undo_49 : decode cX12_undo 49 = .ok (.putfield 121, 3) := by decide +kernel
theorem dX12_undo_52 : decode cX12_undo 52 = .ok (.iconst 1, 1) := by decide +kernel
theorem dX12_undo_53 : decode cX12_undo 53 = .ok (.ireturn, 1) := by decide +kernel
theorem dX12_isWorld_0 : decode cX12_isWorld 0 = .ok (.iload_n 1, 1) := by decide +kernel
theorem dX12_isWorld_1 : decode cX12_isWorld 1 = .ok (.i2l, 1) := by decide +kernel
theorem dX12_isWorld_2 : decode cX12_isWorld 2 = .ok (.lconst 0, 1) := by decide +kernel
theorem dX12_isWorld_3 : decode cX12_isWorld 3 = .ok (.ldc2_w 151, 3) := by decide +kernel
theorem dX12_isWorld_6 : decode cX12_isWorld 6 = .ok (.invokestatic 109, 3) := by decide +kernel
theorem dX12_isWorld_9 : decode cX12_isWorld 9 = .ok (.ifCond .ne 5, 3) := by decide +kernel
theorem dX12_isWorld_12 : decode cX12_isWorld 12 = .ok (.iconst 0, 1) := by decide +kernel
theorem dX12_isWorld_13 : decode cX12_isWorld 13 = .ok (.ireturn, 1) := by decide +kernel
theorem dX12_isWorld_14 : decode cX12_isWorld 14 = .ok (.iconst 0, 1) := by decide +kernel
theorem dX12_isWorld_15 : decode cX12_isWorld 15 = .ok (.istore_n 2, 1) := by decide +kernel
theorem dX12_isWorld_16 : decode cX12_isWorld 16 = .ok (.iload_n 2, 1) := by decide +kernel
theorem dX12_isWorld_17 : decode cX12_isWorld 17 = .ok (.iconst 4, 1) := by decide +kernel
theorem dX12_isWorld_18 : decode cX12_isWorld 18 = .ok (.if_icmp .ge 28, 3) := by decide +kernel
theorem dX12_isWorld_21 : decode cX12_isWorld 21 = .ok (.iload_n 1, 1) := by decide +kernel
theorem dX12_isWorld_22 : decode cX12_isWorld 22 = .ok (.iload_n 2, 1) := by decide +kernel
theorem dX12_isWorld_23 : decode cX12_isWorld 23 = .ok (.ishr, 1) := by decide +kernel
theorem dX12_isWorld_24 : decode cX12_isWorld 24 = .ok (.iconst 1, 1) := by decide +kernel
theorem dX12_isWorld_25 : decode cX12_isWorld 25 = .ok (.iand, 1) := by decide +kernel
theorem dX12_isWorld_26 : decode cX12_isWorld 26 = .ok (.iconst 1, 1) := by decide +kernel
theorem dX12_isWorld_27 : decode cX12_isWorld 27 = .ok (.if_icmp .ne 13, 3) := by decide +kernel
theorem dX12_isWorld_30 : decode cX12_isWorld 30 = .ok (.aload_n 0, 1) := by decide +kernel
theorem dX12_isWorld_31 : decode cX12_isWorld 31 = .ok (.iload_n 2, 1) := by decide +kernel
theorem dX12_isWorld_32 : decode cX12_isWorld 32 = .ok (.invokevirtual 117, 3) := by decide +kernel
theorem dX12_isWorld_35 : decode cX12_isWorld 35 = .ok (.ifCond .ne 5, 3) := by decide +kernel
theorem dX12_isWorld_38 : decode cX12_isWorld 38 = .ok (.iconst 0, 1) := by decide +kernel
theorem dX12_isWorld_39 : decode cX12_isWorld 39 = .ok (.ireturn, 1) := by decide +kernel
theorem dX12_isWorld_40 : decode cX12_isWorld 40 = .ok (.iinc 2 1, 3) := by decide +kernel
theorem dX12_isWorld_43 : decode cX12_isWorld 43 = .ok (.goto (-27), 3) := by decide +kernel
theorem dX12_isWorld_46 : decode cX12_isWorld 46 = .ok (.iconst 1, 1) := by decide +kernel
theorem dX12_isWorld_47 : decode cX12_isWorld 47 = .ok (.ireturn, 1) := by decide +kernel
theorem dX12_ferries_0 : decode cX12_ferries 0 = .ok (.iload_n 0, 1) := by decide +kernel
theorem dX12_ferries_1 : decode cX12_ferries 1 = .ok (.iconst 2, 1) := by decide +kernel
theorem dX12_ferries_2 : decode cX12_ferries 2 = .ok (.iload_n 1, 1) := by decide +kernel
theorem dX12_ferries_3 : decode cX12_ferries 3 = .ok (.imul, 1) := by decide +kernel
theorem dX12_ferries_4 : decode cX12_ferries 4 = .ok (.ishr, 1) := by decide +kernel
theorem dX12_ferries_5 : decode cX12_ferries 5 = .ok (.iconst 3, 1) := by decide +kernel
theorem dX12_ferries_6 : decode cX12_ferries 6 = .ok (.iand, 1) := by decide +kernel
theorem dX12_ferries_7 : decode cX12_ferries 7 = .ok (.ireturn, 1) := by decide +kernel
theorem dX12_isPlan_0 : decode cX12_isPlan 0 = .ok (.iload_n 1, 1) := by decide +kernel
theorem dX12_isPlan_1 : decode cX12_isPlan 1 = .ok (.i2l, 1) := by decide +kernel
theorem dX12_isPlan_2 : decode cX12_isPlan 2 = .ok (.lconst 0, 1) := by decide +kernel
theorem dX12_isPlan_3 : decode cX12_isPlan 3 = .ok (.ldc2_w 153, 3) := by decide +kernel
theorem dX12_isPlan_6 : decode cX12_isPlan 6 = .ok (.invokestatic 109, 3) := by decide +kernel
theorem dX12_isPlan_9 : decode cX12_isPlan 9 = .ok (.ifCond .ne 5, 3) := by decide +kernel
theorem dX12_isPlan_12 : decode cX12_isPlan 12 = .ok (.iconst 0, 1) := by decide +kernel
theorem dX12_isPlan_13 : decode cX12_isPlan 13 = .ok (.ireturn, 1) := by decide +kernel
theorem dX12_isPlan_14 : decode cX12_isPlan 14 = .ok (.iconst 0, 1) := by decide +kernel
theorem dX12_isPlan_15 : decode cX12_isPlan 15 = .ok (.istore_n 2, 1) := by decide +kernel
theorem dX12_isPlan_16 : decode cX12_isPlan 16 = .ok (.iload_n 2, 1) := by decide +kernel
theorem dX12_isPlan_17 : decode cX12_isPlan 17 = .ok (.iconst 4, 1) := by decide +kernel
theorem dX12_isPlan_18 : decode cX12_isPlan 18 = .ok (.if_icmp .ge 27, 3) := by decide +kernel
theorem dX12_isPlan_21 : decode cX12_isPlan 21 = .ok (.iload_n 1, 1) := by decide +kernel
theorem dX12_isPlan_22 : decode cX12_isPlan 22 = .ok (.iload_n 2, 1) := by decide +kernel
theorem dX12_isPlan_23 : decode cX12_isPlan 23 = .ok (.invokestatic 155, 3) := by decide +kernel
theorem dX12_isPlan_26 : decode cX12_isPlan 26 = .ok (.ifCond .le 13, 3) := by decide +kernel
theorem dX12_isPlan_29 : decode cX12_isPlan 29 = .ok (.aload_n 0, 1) := by decide +kernel
theorem dX12_isPlan_30 : decode cX12_isPlan 30 = .ok (.iload_n 2, 1) := by decide +kernel
theorem dX12_isPlan_31 : decode cX12_isPlan 31 = .ok (.invokevirtual 117, 3) := by decide +kernel
theorem dX12_isPlan_34 : decode cX12_isPlan 34 = .ok (.ifCond .ne 5, 3) := by decide +kernel
theorem dX12_isPlan_37 : decode cX12_isPlan 37 = .ok (.iconst 0, 1) := by decide +kernel
theorem dX12_isPlan_38 : decode cX12_isPlan 38 = .ok (.ireturn, 1) := by decide +kernel
theorem dX12_isPlan_39 : decode cX12_isPlan 39 = .ok (.iinc 2 1, 3) := by decide +kernel
theorem dX12_isPlan_42 : decode cX12_isPlan 42 = .ok (.goto (-26), 3) := by decide +kernel
theorem dX12_isPlan_45 : decode cX12_isPlan 45 = .ok (.iconst 1, 1) := by decide +kernel
theorem dX12_isPlan_46 : decode cX12_isPlan 46 = .ok (.ireturn, 1) := by decide +kernel
theorem dX12_feed_0 : decode cX12_feed 0 = .ok (.iload_n 1, 1) := by decide +kernel
theorem dX12_feed_1 : decode cX12_feed 1 = .ok (.i2l, 1) := by decide +kernel
theorem dX12_feed_2 : decode cX12_feed 2 = .ok (.lconst 1, 1) := by decide +kernel
theorem dX12_feed_3 : decode cX12_feed 3 = .ok (.ldc2_w 158, 3) := by decide +kernel
theorem dX12_feed_6 : decode cX12_feed 6 = .ok (.invokestatic 137, 3) := by decide +kernel
theorem dX12_feed_9 : decode cX12_feed 9 = .ok (.istore 4, 2) := by decide +kernel
theorem dX12_feed_11 : decode cX12_feed 11 = .ok (.iload 4, 2) := by decide +kernel
theorem dX12_feed_13 : decode cX12_feed 13 = .ok (.ifCond .ne 18, 3) := by decide +kernel
theorem dX12_feed_16 : decode cX12_feed 16 = .ok (.aload_n 0, 1) := by decide +kernel
theorem dX12_feed_17 : decode cX12_feed 17 = .ok (.getfield 160, 3) := by decide +kernel
theorem dX12_feed_20 : decode cX12_feed 20 = .ok (.iload_n 1, 1) := by decide +kernel
theorem dX12_feed_21 : decode cX12_feed 21 = .ok (.iadd, 1) := by decide +kernel
theorem dX12_feed_22 : decode cX12_feed 22 = .ok (.bipush 40, 2) := by decide +kernel
theorem dX12_feed_24 : decode cX12_feed 24 = .ok (.if_icmp .le 7, 3) := by decide +kernel
theorem dX12_feed_27 : decode cX12_feed 27 = .ok (.bipush (-6), 2) := by decide +kernel
theorem dX12_feed_29 : decode cX12_feed 29 = .ok (.istore 4, 2) := by decide +kernel
theorem dX12_feed_31 : decode cX12_feed 31 = .ok (.iload 4, 2) := by decide +kernel
theorem dX12_feed_33 : decode cX12_feed 33 = .ok (.ifCond .eq 10, 3) := by decide +kernel
theorem dX12_feed_36 : decode cX12_feed 36 = .ok (.aload_n 0, 1) := by decide +kernel
theorem dX12_feed_37 : decode cX12_feed 37 = .ok (.iload 4, 2) := by decide +kernel
theorem dX12_feed_39 : decode cX12_feed 39 = .ok (.invokevirtual 113, 3) := by decide +kernel
theorem dX12_feed_42 : decode cX12_feed 42 = .ok (.ireturn, 1) := by decide +kernel
theorem dX12_feed_43 : decode cX12_feed 43 = .ok (.iconst 0, 1) := by decide +kernel
theorem dX12_feed_44 : decode cX12_feed 44 = .ok (.istore 5, 2) := by decide +kernel
theorem dX12_feed_46 : decode cX12_feed 46 = .ok (.iload 5, 2) := by decide +kernel
theorem dX12_feed_48 : decode cX12_feed 48 = .ok (.iload_n 1, 1) := by decide +kernel
theorem dX12_feed_49 : decode cX12_feed 49 = .ok (.if_icmp .ge 40, 3) := by decide +kernel
theorem dX12_feed_52 : decode cX12_feed 52 = .ok (.aload_n 0, 1) := by decide +kernel
theorem dX12_feed_53 : decode cX12_feed 53 = .ok (.getfield 22, 3) := by decide +kernel
theorem dX12_feed_56 : decode cX12_feed 56 = .ok (.aload_n 0, 1) := by decide +kernel
theorem dX12_feed_57 : decode cX12_feed 57 = .ok (.getfield 160, 3) := by decide +kernel
end
section
theorem dX12_feed_60 : decode cX12_feed 60 = .ok (.lload_n 2, 1) := by decide +kernel
theorem dX12_feed_61 : decode cX12_feed 61 = .ok (.bipush 8, 2) := by decide +kernel
theorem dX12_feed_63 : decode cX12_feed 63 = .ok (.iload 5, 2) := by decide +kernel
theorem dX12_feed_65 : decode cX12_feed 65 = .ok (.imul, 1) := by decide +kernel
theorem dX12_feed_66 : decode cX12_feed 66 = .ok (.lshr, 1) := by decide +kernel
theorem dX12_feed_67 : decode cX12_feed 67 = .ok (.ldc2_w 153, 3) := by decide +kernel
theorem dX12_feed_70 : decode cX12_feed 70 = .ok (.land, 1) := by decide +kernel
theorem dX12_feed_71 : decode cX12_feed 71 = .ok (.l2i, 1) := by decide +kernel
theorem dX12_feed_72 : decode cX12_feed 72 = .ok (.iastore, 1) := by decide +kernel
theorem dX12_feed_73 : decode cX12_feed 73 = .ok (.aload_n 0, 1) := by decide +kernel
theorem dX12_feed_74 : decode cX12_feed 74 = .ok (.dup, 1) := by decide +kernel
theorem dX12_feed_75 : decode cX12_feed 75 = .ok (.getfield 160, 3) := by decide +kernel
theorem dX12_feed_78 : decode cX12_feed 78 = .ok (.iconst 1, 1) := by decide +kernel
theorem dX12_feed_79 : decode cX12_feed 79 = .ok (.iadd, 1) := by decide +kernel
theorem dX12_feed_80 : decode cX12_feed 80 = .ok (.putfield 160, 3) := by decide +kernel
theorem dX12_feed_83 : decode cX12_feed 83 = .ok (.iinc 5 1, 3) := by decide +kernel
theorem dX12_feed_86 : decode cX12_feed 86 = .ok (.goto (-40), 3) := by decide +kernel
theorem dX12_feed_89 : decode cX12_feed 89 = .ok (.aload_n 0, 1) := by decide +kernel
theorem dX12_feed_90 : decode cX12_feed 90 = .ok (.getfield 160, 3) := by decide +kernel
theorem dX12_feed_93 : decode cX12_feed 93 = .ok (.ireturn, 1) := by decide +kernel
theorem dX12_sign_0 : decode cX12_sign 0 = .ok (.aload_n 0, 1) := by decide +kernel
theorem dX12_sign_1 : decode cX12_sign 1 = .ok (.getfield 163, 3) := by decide +kernel
theorem dX12_sign_4 : decode cX12_sign 4 = .ok (.aload_n 0, 1) := by decide +kernel
theorem dX12_sign_5 : decode cX12_sign 5 = .ok (.getfield 160, 3) := by decide +kernel
theorem dX12_sign_8 : decode cX12_sign 8 = .ok (.if_icmp .ge 15, 3) := by decide +kernel
theorem dX12_sign_11 : decode cX12_sign 11 = .ok (.aload_n 0, 1) := by decide +kernel
theorem dX12_sign_12 : decode cX12_sign 12 = .ok (.getfield 22, 3) := by decide +kernel
theorem dX12_sign_15 : decode cX12_sign 15 = .ok (.aload_n 0, 1) := by decide +kernel
theorem dX12_sign_16 : decode cX12_sign 16 = .ok (.getfield 163, 3) := by decide +kernel
theorem dX12_sign_19 : decode cX12_sign 19 = .ok (.iaload, 1) := by decide +kernel
theorem dX12_sign_20 : decode cX12_sign 20 = .ok (.goto 4, 3) := by decide +kernel
theorem dX12_sign_23 : decode cX12_sign 23 = .ok (.iconst (-1), 1) := by decide +kernel
theorem dX12_sign_24 : decode cX12_sign 24 = .ok (.ireturn, 1) := by decide +kernel
theorem dX12_isDigit_0 : decode cX12_isDigit 0 = .ok (.iload_n 0, 1) := by decide +kernel
theorem dX12_isDigit_1 : decode cX12_isDigit 1 = .ok (.bipush 48, 2) := by decide +kernel
theorem dX12_isDigit_3 : decode cX12_isDigit 3 = .ok (.if_icmp .lt 13, 3) := by decide +kernel
theorem dX12_isDigit_6 : decode cX12_isDigit 6 = .ok (.iload_n 0, 1) := by decide +kernel
theorem dX12_isDigit_7 : decode cX12_isDigit 7 = .ok (.bipush 57, 2) := by decide +kernel
theorem dX12_isDigit_9 : decode cX12_isDigit 9 = .ok (.if_icmp .gt 7, 3) := by decide +kernel
theorem dX12_isDigit_12 : decode cX12_isDigit 12 = .ok (.iconst 1, 1) := by decide +kernel
theorem dX12_isDigit_13 : decode cX12_isDigit 13 = .ok (.goto 4, 3) := by decide +kernel
theorem dX12_isDigit_16 : decode cX12_isDigit 16 = .ok (.iconst 0, 1) := by decide +kernel
theorem dX12_isDigit_17 : decode cX12_isDigit 17 = .ok (.ireturn, 1) := by decide +kernel
theorem dX12_digit_0 : decode cX12_digit 0 = .ok (.aload_n 0, 1) := by decide +kernel
theorem dX12_digit_1 : decode cX12_digit 1 = .ok (.invokevirtual 166, 3) := by decide +kernel
theorem dX12_digit_4 : decode cX12_digit 4 = .ok (.invokestatic 170, 3) := by decide +kernel
theorem dX12_digit_7 : decode cX12_digit 7 = .ok (.ifCond .ne 5, 3) := by decide +kernel
theorem dX12_digit_10 : decode cX12_digit 10 = .ok (.iconst 0, 1) := by decide +kernel
theorem dX12_digit_11 : decode cX12_digit 11 = .ok (.ireturn, 1) := by decide +kernel
theorem dX12_digit_12 : decode cX12_digit 12 = .ok (.aload_n 0, 1) := by decide +kernel
theorem dX12_digit_13 : decode cX12_digit 13 = .ok (.dup, 1) := by decide +kernel
theorem dX12_digit_14 : decode cX12_digit 14 = .ok (.getfield 163, 3) := by decide +kernel
theorem dX12_digit_17 : decode cX12_digit 17 = .ok (.iconst 1, 1) := by decide +kernel
theorem dX12_digit_18 : decode cX12_digit 18 = .ok (.iadd, 1) := by decide +kernel
theorem dX12_digit_19 : decode cX12_digit 19 = .ok (.putfield 163, 3) := by decide +kernel
theorem dX12_digit_22 : decode cX12_digit 22 = .ok (.iconst 1, 1) := by decide +kernel
theorem dX12_digit_23 : decode cX12_digit 23 = .ok (.ireturn, 1) := by decide +kernel
theorem dX12_part_0 : decode cX12_part 0 = .ok (.aload_n 0, 1) := by decide +kernel
theorem dX12_part_1 : decode cX12_part 1 = .ok (.invokevirtual 166, 3) := by decide +kernel
theorem dX12_part_4 : decode cX12_part 4 = .ok (.istore_n 1, 1) := by decide +kernel
theorem dX12_part_5 : decode cX12_part 5 = .ok (.iload_n 1, 1) := by decide +kernel
theorem dX12_part_6 : decode cX12_part 6 = .ok (.bipush 98, 2) := by decide +kernel
theorem dX12_part_8 : decode cX12_part 8 = .ok (.if_icmp .eq 11, 3) := by decide +kernel
theorem dX12_part_11 : decode cX12_part 11 = .ok (.iload_n 1, 1) := by decide +kernel
theorem dX12_part_12 : decode cX12_part 12 = .ok (.bipush 110, 2) := by decide +kernel
theorem dX12_part_14 : decode cX12_part 14 = .ok (.if_icmp .eq 5, 3) := by decide +kernel
theorem dX12_part_17 : decode cX12_part 17 = .ok (.iconst 0, 1) := by decide +kernel
theorem dX12_part_18 : decode cX12_part 18 = .ok (.ireturn, 1) := by decide +kernel
theorem dX12_part_19 : decode cX12_part 19 = .ok (.aload_n 0, 1) := by decide +kernel
theorem dX12_part_20 : decode cX12_part 20 = .ok (.dup, 1) := by decide +kernel
theorem dX12_part_21 : decode cX12_part 21 = .ok (.getfield 163, 3) := by decide +kernel
theorem dX12_part_24 : decode cX12_part 24 = .ok (.iconst 1, 1) := by decide +kernel
theorem dX12_part_25 : decode cX12_part 25 = .ok (.iadd, 1) := by decide +kernel
theorem dX12_part_26 : decode cX12_part 26 = .ok (.putfield 163, 3) := by decide +kernel
theorem dX12_part_29 : decode cX12_part 29 = .ok (.iload_n 1, 1) := by decide +kernel
theorem dX12_part_30 : decode cX12_part 30 = .ok (.bipush 98, 2) := by decide +kernel
theorem dX12_part_32 : decode cX12_part 32 = .ok (.if_icmp .ne 8, 3) := by decide +kernel
theorem dX12_part_35 : decode cX12_part 35 = .ok (.aload_n 0, 1) := by decide +kernel
theorem dX12_part_36 : decode cX12_part 36 = .ok (.invokevirtual 173, 3) := by decide +kernel
theorem dX12_part_39 : decode cX12_part 39 = .ok (.ireturn, 1) := by decide +kernel
theorem dX12_part_40 : decode cX12_part 40 = .ok (.aload_n 0, 1) := by decide +kernel
theorem dX12_part_41 : decode cX12_part 41 = .ok (.invokevirtual 166, 3) := by decide +kernel
theorem dX12_part_44 : decode cX12_part 44 = .ok (.bipush 60, 2) := by decide +kernel
theorem dX12_part_46 : decode cX12_part 46 = .ok (.if_icmp .eq 23, 3) := by decide +kernel
theorem dX12_part_49 : decode cX12_part 49 = .ok (.aload_n 0, 1) := by decide +kernel
theorem dX12_part_50 : decode cX12_part 50 = .ok (.invokevirtual 166, 3) := by decide +kernel
theorem dX12_part_53 : decode cX12_part 53 = .ok (.bipush 61, 2) := by decide +kernel
theorem dX12_part_55 : decode cX12_part 55 = .ok (.if_icmp .eq 14, 3) := by decide +kernel
theorem dX12_part_58 : decode cX12_part 58 = .ok (.aload_n 0, 1) := by decide +kernel
theorem dX12_part_59 : decode cX12_part 59 = .ok (.invokevirtual 166, 3) := by decide +kernel
theorem dX12_part_62 : decode cX12_part 62 = .ok (.bipush 62, 2) := by decide +kernel
theorem dX12_part_64 : decode cX12_part 64 = .ok (.if_icmp .eq 5, 3) := by decide +kernel
theorem dX12_part_67 : decode cX12_part 67 = .ok (.iconst 0, 1) := by decide +kernel
theorem dX12_part_68 : decode cX12_part 68 = .ok (.ireturn, 1) := by decide +kernel
theorem dX12_part_69 : decode cX12_part 69 = .ok (.aload_n 0, 1) := by decide +kernel
theorem dX12_part_70 : decode cX12_part 70 = .ok (.dup, 1) := by decide +kernel
theorem dX12_part_71 : decode cX12_part 71 = .ok (.getfield 163, 3) := by decide +kernel
theorem dX12_part_74 : decode cX12_part 74 = .ok (.iconst 1, 1) := by decide +kernel
theorem dX12_part_75 : decode cX12_part 75 = .ok (.iadd, 1) := by decide +kernel
theorem dX12_part_76 : decode cX12_part 76 = .ok (.putfield 163, 3) := by decide +kernel
theorem dX12_part_79 : decode cX12_part 79 = .ok (.aload_n 0, 1) := by decide +kernel
theorem dX12_part_80 : decode cX12_part 80 = .ok (.invokevirtual 173, 3) := by decide +kernel
theorem dX12_part_83 : decode cX12_part 83 = .ok (.ireturn, 1) := by decide +kernel
theorem dX12_closes_0 : decode cX12_closes 0 = .ok (.aload_n 0, 1) := by decide +kernel
theorem dX12_closes_1 : decode cX12_closes 1 = .ok (.getfield 177, 3) := by decide +kernel
theorem dX12_closes_4 : decode cX12_closes 4 = .ok (.ifCond .le 31, 3) := by decide +kernel
theorem dX12_closes_7 : decode cX12_closes 7 = .ok (.aload_n 0, 1) := by decide +kernel
theorem dX12_closes_8 : decode cX12_closes 8 = .ok (.getfield 37, 3) := by decide +kernel
theorem dX12_closes_11 : decode cX12_closes 11 = .ok (.aload_n 0, 1) := by decide +kernel
theorem dX12_closes_12 : decode cX12_closes 12 = .ok (.getfield 177, 3) := by decide +kernel
theorem dX12_closes_15 : decode cX12_closes 15 = .ok (.iconst 1, 1) := by decide +kernel
theorem dX12_closes_16 : decode cX12_closes 16 = .ok (.isub, 1) := by decide +kernel
theorem dX12_closes_17 : decode cX12_closes 17 = .ok (.iaload, 1) := by decide +kernel
theorem dX12_closes_18 : decode cX12_closes 18 = .ok (.iconst 1, 1) := by decide +kernel
theorem dX12_closes_19 : decode cX12_closes 19 = .ok (.if_icmp .ne 16, 3) := by decide +kernel
theorem dX12_closes_22 : decode cX12_closes 22 = .ok (.aload_n 0, 1) := by decide +kernel
theorem dX12_closes_23 : decode cX12_closes 23 = .ok (.dup, 1) := by decide +kernel
theorem dX12_closes_24 : decode cX12_closes 24 = .ok (.getfield 177, 3) := by decide +kernel
theorem dX12_closes_27 : decode cX12_closes 27 = .ok (.iconst 1, 1) := by decide +kernel
theorem dX12_closes_28 : decode cX12_closes 28 = .ok (.isub, 1) := by decide +kernel
theorem dX12_closes_29 : decode cX12_closes 29 = .ok (.putfield 177, 3) := by decide +kernel
theorem dX12_closes_32 : decode cX12_closes 32 = .ok (.goto (-32), 3) := by decide +kernel
theorem dX12_closes_35 : decode cX12_closes 35 = .ok (.return_, 1) := by decide +kernel
theorem dX12_isLaw_0 : decode cX12_isLaw 0 = .ok (.aload_n 0, 1) := by decide +kernel
theorem dX12_isLaw_1 : decode cX12_isLaw 1 = .ok (.iconst 0, 1) := by decide +kernel
theorem dX12_isLaw_2 : decode cX12_isLaw 2 = .ok (.putfield 163, 3) := by decide +kernel
theorem dX12_isLaw_5 : decode cX12_isLaw 5 = .ok (.aload_n 0, 1) := by decide +kernel
theorem dX12_isLaw_6 : decode cX12_isLaw 6 = .ok (.iconst 0, 1) := by decide +kernel
theorem dX12_isLaw_7 : decode cX12_isLaw 7 = .ok (.putfield 177, 3) := by decide +kernel
theorem dX12_isLaw_10 : decode cX12_isLaw 10 = .ok (.aload_n 0, 1) := by decide +kernel
theorem dX12_isLaw_11 : decode cX12_isLaw 11 = .ok (.invokevirtual 166, 3) := by decide +kernel
theorem dX12_isLaw_14 : decode cX12_isLaw 14 = .ok (.bipush 33, 2) := by decide +kernel
theorem dX12_isLaw_16 : decode cX12_isLaw 16 = .ok (.if_icmp .eq 12, 3) := by decide +kernel
theorem dX12_isLaw_19 : decode cX12_isLaw 19 = .ok (.aload_n 0, 1) := by decide +kernel
theorem dX12_isLaw_20 : decode cX12_isLaw 20 = .ok (.invokevirtual 166, 3) := by decide +kernel
theorem dX12_isLaw_23 : decode cX12_isLaw 23 = .ok (.bipush 40, 2) := by decide +kernel
theorem dX12_isLaw_25 : decode cX12_isLaw 25 = .ok (.if_icmp .ne 59, 3) := by decide +kernel
theorem dX12_isLaw_28 : decode cX12_isLaw 28 = .ok (.aload_n 0, 1) := by decide +kernel
theorem dX12_isLaw_29 : decode cX12_isLaw 29 = .ok (.getfield 177, 3) := by decide +kernel
theorem dX12_isLaw_32 : decode cX12_isLaw 32 = .ok (.iconst 4, 1) := by decide +kernel
theorem dX12_isLaw_33 : decode cX12_isLaw 33 = .ok (.if_icmp .ne 5, 3) := by decide +kernel
theorem dX12_isLaw_36 : decode cX12_isLaw 36 = .ok (.iconst 0, 1) := by decide +kernel
theorem dX12_isLaw_37 : decode cX12_isLaw 37 = .ok (.ireturn, 1) := by decide +kernel
theorem dX12_isLaw_38 : decode cX12_isLaw 38 = .ok (.aload_n 0, 1) := by decide +kernel
theorem dX12_isLaw_39 : decode cX12_isLaw 39 = .ok (.getfield 37, 3) := by decide +kernel
theorem dX12_isLaw_42 : decode cX12_isLaw 42 = .ok (.aload_n 0, 1) := by decide +kernel
theorem dX12_isLaw_43 : decode cX12_isLaw 43 = .ok (.getfield 177, 3) := by decide +kernel
theorem dX12_isLaw_46 : decode cX12_isLaw 46 = .ok (.aload_n 0, 1) := by decide +kernel
theorem dX12_isLaw_47 : decode cX12_isLaw 47 = .ok (.invokevirtual 166, 3) := by decide +kernel
theorem dX12_isLaw_50 : decode cX12_isLaw 50 = .ok (.bipush 33, 2) := by decide +kernel
theorem dX12_isLaw_52 : decode cX12_isLaw 52 = .ok (.if_icmp .ne 7, 3) := by decide +kernel
theorem dX12_isLaw_55 : decode cX12_isLaw 55 = .ok (.iconst 1, 1) := by decide +kernel
theorem dX12_isLaw_56 : decode cX12_isLaw 56 = .ok (.goto 4, 3) := by decide +kernel
theorem dX12_isLaw_59 : decode cX12_isLaw 59 = .ok (.iconst 2, 1) := by decide +kernel
theorem dX12_isLaw_60 : decode cX12_isLaw 60 = .ok (.iastore, 1) := by decide +kernel
theorem dX12_isLaw_61 : decode cX12_isLaw 61 = .ok (.aload_n 0, 1) := by decide +kernel
theorem dX12_isLaw_62 : decode cX12_isLaw 62 = .ok (.dup, 1) := by decide +kernel
theorem dX12_isLaw_63 : decode cX12_isLaw 63 = .ok (.getfield 177, 3) := by decide +kernel
theorem dX12_isLaw_66 : decode cX12_isLaw 66 = .ok (.iconst 1, 1) := by decide +kernel
theorem dX12_isLaw_67 : decode cX12_isLaw 67 = .ok (.iadd, 1) := by decide +kernel
theorem dX12_isLaw_68 : decode cX12_isLaw 68 = .ok (.putfield 177, 3) := by decide +kernel
theorem dX12_isLaw_71 : decode cX12_isLaw 71 = .ok (.aload_n 0, 1) := by decide +kernel
theorem dX12_isLaw_72 : decode cX12_isLaw 72 = .ok (.dup, 1) := by decide +kernel
theorem dX12_isLaw_73 : decode cX12_isLaw 73 = .ok (.getfield 163, 3) := by decide +kernel
theorem dX12_isLaw_76 : decode cX12_isLaw 76 = .ok (.iconst 1, 1) := by decide +kernel
theorem dX12_isLaw_77 : decode cX12_isLaw 77 = .ok (.iadd, 1) := by decide +kernel
theorem dX12_isLaw_78 : decode cX12_isLaw 78 = .ok (.putfield 163, 3) := by decide +kernel
theorem dX12_isLaw_81 : decode cX12_isLaw 81 = .ok (.goto (-71), 3) := by decide +kernel
theorem dX12_isLaw_84 : decode cX12_isLaw 84 = .ok (.aload_n 0, 1) := by decide +kernel
theorem dX12_isLaw_85 : decode cX12_isLaw 85 = .ok (.invokevirtual 180, 3) := by decide +kernel
theorem dX12_isLaw_88 : decode cX12_isLaw 88 = .ok (.ifCond .ne 5, 3) := by decide +kernel
theorem dX12_isLaw_91 : decode cX12_isLaw 91 = .ok (.iconst 0, 1) := by decide +kernel
theorem dX12_isLaw_92 : decode cX12_isLaw 92 = .ok (.ireturn, 1) := by decide +kernel
theorem dX12_isLaw_93 : decode cX12_isLaw 93 = .ok (.aload_n 0, 1) := by decide +kernel
theorem dX12_isLaw_94 : decode cX12_isLaw 94 = .ok (.invokevirtual 183, 3) := by decide +kernel
theorem dX12_isLaw_97 : decode cX12_isLaw 97 = .ok (.aload_n 0, 1) := by decide +kernel
theorem dX12_isLaw_98 : decode cX12_isLaw 98 = .ok (.invokevirtual 166, 3) := by decide +kernel
theorem dX12_isLaw_101 : decode cX12_isLaw 101 = .ok (.bipush 41, 2) := by decide +kernel
theorem dX12_isLaw_103 : decode cX12_isLaw 103 = .ok (.if_icmp .ne 37, 3) := by decide +kernel
theorem dX12_isLaw_106 : decode cX12_isLaw 106 = .ok (.aload_n 0, 1) := by decide +kernel
theorem dX12_isLaw_107 : decode cX12_isLaw 107 = .ok (.getfield 177, 3) := by decide +kernel
theorem dX12_isLaw_110 : decode cX12_isLaw 110 = .ok (.ifCond .le 30, 3) := by decide +kernel
theorem dX12_isLaw_113 : decode cX12_isLaw 113 = .ok (.aload_n 0, 1) := by decide +kernel
theorem dX12_isLaw_114 : decode cX12_isLaw 114 = .ok (.dup, 1) := by decide +kernel
theorem dX12_isLaw_115 : decode cX12_isLaw 115 = .ok (.getfield 163, 3) := by decide +kernel
theorem dX12_isLaw_118 : decode cX12_isLaw 118 = .ok (.iconst 1, 1) := by decide +kernel
theorem dX12_isLaw_119 : decode cX12_isLaw 119 = .ok (.iadd, 1) := by decide +kernel
theorem dX12_isLaw_120 : decode cX12_isLaw 120 = .ok (.putfield 163, 3) := by decide +kernel
theorem dX12_isLaw_123 : decode cX12_isLaw 123 = .ok (.aload_n 0, 1) := by decide +kernel
theorem dX12_isLaw_124 : decode cX12_isLaw 124 = .ok (.dup, 1) := by decide +kernel
theorem dX12_isLaw_125 : decode cX12_isLaw 125 = .ok (.getfield 177, 3) := by decide +kernel
theorem dX12_isLaw_128 : decode cX12_isLaw 128 = .ok (.iconst 1, 1) := by decide +kernel
theorem dX12_isLaw_129 : decode cX12_isLaw 129 = .ok (.isub, 1) := by decide +kernel
theorem dX12_isLaw_130 : decode cX12_isLaw 130 = .ok (.putfield 177, 3) := by decide +kernel
theorem dX12_isLaw_133 : decode cX12_isLaw 133 = .ok (.aload_n 0, 1) := by decide +kernel
theorem dX12_isLaw_134 : decode cX12_isLaw 134 = .ok (.invokevirtual 183, 3) := by decide +kernel
theorem dX12_isLaw_137 : decode cX12_isLaw 137 = .ok (.goto (-40), 3) := by decide +kernel
theorem dX12_isLaw_140 : decode cX12_isLaw 140 = .ok (.aload_n 0, 1) := by decide +kernel
theorem dX12_isLaw_141 : decode cX12_isLaw 141 = .ok (.invokevirtual 166, 3) := by decide +kernel
theorem dX12_isLaw_144 : decode cX12_isLaw 144 = .ok (.iconst (-1), 1) := by decide +kernel
theorem dX12_isLaw_145 : decode cX12_isLaw 145 = .ok (.if_icmp .ne 12, 3) := by decide +kernel
theorem dX12_isLaw_148 : decode cX12_isLaw 148 = .ok (.aload_n 0, 1) := by decide +kernel
theorem dX12_isLaw_149 : decode cX12_isLaw 149 = .ok (.getfield 177, 3) := by decide +kernel
theorem dX12_isLaw_152 : decode cX12_isLaw 152 = .ok (.ifCond .ne 5, 3) := by decide +kernel
theorem dX12_isLaw_155 : decode cX12_isLaw 155 = .ok (.iconst 1, 1) := by decide +kernel
theorem dX12_isLaw_156 : decode cX12_isLaw 156 = .ok (.ireturn, 1) := by decide +kernel
theorem dX12_isLaw_157 : decode cX12_isLaw 157 = .ok (.aload_n 0, 1) := by decide +kernel
theorem dX12_isLaw_158 : decode cX12_isLaw 158 = .ok (.invokevirtual 166, 3) := by decide +kernel
theorem dX12_isLaw_161 : decode cX12_isLaw 161 = .ok (.bipush 124, 2) := by decide +kernel
theorem dX12_isLaw_163 : decode cX12_isLaw 163 = .ok (.if_icmp .eq 14, 3) := by decide +kernel
theorem dX12_isLaw_166 : decode cX12_isLaw 166 = .ok (.aload_n 0, 1) := by decide +kernel
theorem dX12_isLaw_167 : decode cX12_isLaw 167 = .ok (.invokevirtual 166, 3) := by decide +kernel
theorem dX12_isLaw_170 : decode cX12_isLaw 170 = .ok (.bipush 38, 2) := by decide +kernel
theorem dX12_isLaw_172 : decode cX12_isLaw 172 = .ok (.if_icmp .eq 5, 3) := by decide +kernel
theorem dX12_isLaw_175 : decode cX12_isLaw 175 = .ok (.iconst 0, 1) := by decide +kernel
theorem dX12_isLaw_176 : decode cX12_isLaw 176 = .ok (.ireturn, 1) := by decide +kernel
theorem dX12_isLaw_177 : decode cX12_isLaw 177 = .ok (.aload_n 0, 1) := by decide +kernel
theorem dX12_isLaw_178 : decode cX12_isLaw 178 = .ok (.dup, 1) := by decide +kernel
theorem dX12_isLaw_179 : decode cX12_isLaw 179 = .ok (.getfield 163, 3) := by decide +kernel
theorem dX12_isLaw_182 : decode cX12_isLaw 182 = .ok (.iconst 1, 1) := by decide +kernel
theorem dX12_isLaw_183 : decode cX12_isLaw 183 = .ok (.iadd, 1) := by decide +kernel
theorem dX12_isLaw_184 : decode cX12_isLaw 184 = .ok (.putfield 163, 3) := by decide +kernel
theorem dX12_isLaw_187 : decode cX12_isLaw 187 = .ok (.goto (-177), 3) := by decide +kernel
theorem dX12_law_0 : decode cX12_law 0 = .ok (.aload_n 0, 1) := by decide +kernel
theorem dX12_law_1 : decode cX12_law 1 = .ok (.getfield 186, 3) := by decide +kernel
theorem dX12_law_4 : decode cX12_law 4 = .ok (.bipush 12, 2) := by decide +kernel
theorem dX12_law_6 : decode cX12_law 6 = .ok (.if_icmp .ne 10, 3) := by decide +kernel
theorem dX12_law_9 : decode cX12_law 9 = .ok (.aload_n 0, 1) := by decide +kernel
theorem dX12_law_10 : decode cX12_law 10 = .ok (.bipush (-6), 2) := by decide +kernel
theorem dX12_law_12 : decode cX12_law 12 = .ok (.invokevirtual 113, 3) := by decide +kernel
theorem dX12_law_15 : decode cX12_law 15 = .ok (.ireturn, 1) := by decide +kernel
theorem dX12_law_16 : decode cX12_law 16 = .ok (.aload_n 0, 1) := by decide +kernel
theorem dX12_law_17 : decode cX12_law 17 = .ok (.invokevirtual 189, 3) := by decide +kernel
theorem dX12_law_20 : decode cX12_law 20 = .ok (.istore_n 1, 1) := by decide +kernel
theorem dX12_law_21 : decode cX12_law 21 = .ok (.aload_n 0, 1) := by decide +kernel
theorem dX12_law_22 : decode cX12_law 22 = .ok (.getfield 160, 3) := by decide +kernel
theorem dX12_law_25 : decode cX12_law 25 = .ok (.istore_n 2, 1) := by decide +kernel
theorem dX12_law_26 : decode cX12_law 26 = .ok (.aload_n 0, 1) := by decide +kernel
theorem dX12_law_27 : decode cX12_law 27 = .ok (.iconst 0, 1) := by decide +kernel
theorem dX12_law_28 : decode cX12_law 28 = .ok (.putfield 160, 3) := by decide +kernel
theorem dX12_law_31 : decode cX12_law 31 = .ok (.iload_n 1, 1) := by decide +kernel
theorem dX12_law_32 : decode cX12_law 32 = .ok (.ifCond .ne 11, 3) := by decide +kernel
theorem dX12_law_35 : decode cX12_law 35 = .ok (.bipush (-20), 2) := by decide +kernel
theorem dX12_law_37 : decode cX12_law 37 = .ok (.aload_n 0, 1) := by decide +kernel
theorem dX12_law_38 : decode cX12_law 38 = .ok (.getfield 163, 3) := by decide +kernel
theorem dX12_law_41 : decode cX12_law 41 = .ok (.isub, 1) := by decide +kernel
theorem dX12_law_42 : decode cX12_law 42 = .ok (.ireturn, 1) := by decide +kernel
theorem dX12_law_43 : decode cX12_law 43 = .ok (.iconst 0, 1) := by decide +kernel
theorem dX12_law_44 : decode cX12_law 44 = .ok (.istore_n 3, 1) := by decide +kernel
theorem dX12_law_45 : decode cX12_law 45 = .ok (.iload_n 3, 1) := by decide +kernel
theorem dX12_law_46 : decode cX12_law 46 = .ok (.iload_n 2, 1) := by decide +kernel
theorem dX12_law_47 : decode cX12_law 47 = .ok (.if_icmp .ge 29, 3) := by decide +kernel
theorem dX12_law_50 : decode cX12_law 50 = .ok (.aload_n 0, 1) := by decide +kernel
theorem dX12_law_51 : decode cX12_law 51 = .ok (.getfield 25, 3) := by decide +kernel
theorem dX12_law_54 : decode cX12_law 54 = .ok (.bipush 40, 2) := by decide +kernel
theorem dX12_law_56 : decode cX12_law 56 = .ok (.aload_n 0, 1) := by decide +kernel
theorem dX12_law_57 : decode cX12_law 57 = .ok (.getfield 186, 3) := by decide +kernel
theorem dX12_law_60 : decode cX12_law 60 = .ok (.imul, 1) := by decide +kernel
theorem dX12_law_61 : decode cX12_law 61 = .ok (.iload_n 3, 1) := by decide +kernel
theorem dX12_law_62 : decode cX12_law 62 = .ok (.iadd, 1) := by decide +kernel
theorem dX12_law_63 : decode cX12_law 63 = .ok (.aload_n 0, 1) := by decide +kernel
theorem dX12_law_64 : decode cX12_law 64 = .ok (.getfield 22, 3) := by decide +kernel
theorem dX12_law_67 : decode cX12_law 67 = .ok (.iload_n 3, 1) := by decide +kernel
theorem dX12_law_68 : decode cX12_law 68 = .ok (.iaload, 1) := by decide +kernel
theorem dX12_law_69 : decode cX12_law 69 = .ok (.iastore, 1) := by decide +kernel
theorem dX12_law_70 : decode cX12_law 70 = .ok (.iinc 3 1, 3) := by decide +kernel
theorem dX12_law_73 : decode cX12_law 73 = .ok (.goto (-28), 3) := by decide +kernel
theorem dX12_law_76 : decode cX12_law 76 = .ok (.aload_n 0, 1) := by decide +kernel
theorem dX12_law_77 : decode cX12_law 77 = .ok (.getfield 28, 3) := by decide +kernel
theorem dX12_law_80 : decode cX12_law 80 = .ok (.aload_n 0, 1) := by decide +kernel
theorem dX12_law_81 : decode cX12_law 81 = .ok (.getfield 186, 3) := by decide +kernel
theorem dX12_law_84 : decode cX12_law 84 = .ok (.iload_n 2, 1) := by decide +kernel
theorem dX12_law_85 : decode cX12_law 85 = .ok (.iastore, 1) := by decide +kernel
theorem dX12_law_86 : decode cX12_law 86 = .ok (.aload_n 0, 1) := by decide +kernel
theorem dX12_law_87 : decode cX12_law 87 = .ok (.getfield 40, 3) := by decide +kernel
theorem dX12_law_90 : decode cX12_law 90 = .ok (.aload_n 0, 1) := by decide +kernel
theorem dX12_law_91 : decode cX12_law 91 = .ok (.getfield 186, 3) := by decide +kernel
theorem dX12_law_94 : decode cX12_law 94 = .ok (.iconst 0, 1) := by decide +kernel
theorem dX12_law_95 : decode cX12_law 95 = .ok (.bastore, 1) := by decide +kernel
theorem dX12_law_96 : decode cX12_law 96 = .ok (.aload_n 0, 1) := by decide +kernel
theorem dX12_law_97 : decode cX12_law 97 = .ok (.dup, 1) := by decide +kernel
theorem dX12_law_98 : decode cX12_law 98 = .ok (.getfield 186, 3) := by decide +kernel
theorem dX12_law_101 : decode cX12_law 101 = .ok (.iconst 1, 1) := by decide +kernel
theorem dX12_law_102 : decode cX12_law 102 = .ok (.iadd, 1) := by decide +kernel
theorem dX12_law_103 : decode cX12_law 103 = .ok (.putfield 186, 3) := by decide +kernel
theorem dX12_law_106 : decode cX12_law 106 = .ok (.aload_n 0, 1) := by decide +kernel
theorem dX12_law_107 : decode cX12_law 107 = .ok (.iconst 0, 1) := by decide +kernel
theorem dX12_law_108 : decode cX12_law 108 = .ok (.putfield 121, 3) := by decide +kernel
theorem dX12_law_111 : decode cX12_law 111 = .ok (.aload_n 0, 1) := by decide +kernel
theorem dX12_law_112 : decode cX12_law 112 = .ok (.getfield 186, 3) := by decide +kernel
theorem dX12_law_115 : decode cX12_law 115 = .ok (.iconst 1, 1) := by decide +kernel
theorem dX12_law_116 : decode cX12_law 116 = .ok (.isub, 1) := by decide +kernel
theorem dX12_law_117 : decode cX12_law 117 = .ok (.ireturn, 1) := by decide +kernel
theorem dX12_holds_0 : decode cX12_holds 0 = .ok (.iload_n 1, 1) := by decide +kernel
theorem dX12_holds_1 : decode cX12_holds 1 = .ok (.i2l, 1) := by decide +kernel
theorem dX12_holds_2 : decode cX12_holds 2 = .ok (.lconst 0, 1) := by decide +kernel
theorem dX12_holds_3 : decode cX12_holds 3 = .ok (.aload_n 0, 1) := by decide +kernel
theorem dX12_holds_4 : decode cX12_holds 4 = .ok (.getfield 186, 3) := by decide +kernel
theorem dX12_holds_7 : decode cX12_holds 7 = .ok (.iconst 1, 1) := by decide +kernel
theorem dX12_holds_8 : decode cX12_holds 8 = .ok (.isub, 1) := by decide +kernel
theorem dX12_holds_9 : decode cX12_holds 9 = .ok (.i2l, 1) := by decide +kernel
theorem dX12_holds_10 : decode cX12_holds 10 = .ok (.invokestatic 109, 3) := by decide +kernel
theorem dX12_holds_13 : decode cX12_holds 13 = .ok (.ifCond .ne 9, 3) := by decide +kernel
theorem dX12_holds_16 : decode cX12_holds 16 = .ok (.aload_n 0, 1) := by decide +kernel
theorem dX12_holds_17 : decode cX12_holds 17 = .ok (.iconst (-1), 1) := by decide +kernel
theorem dX12_holds_18 : decode cX12_holds 18 = .ok (.invokevirtual 113, 3) := by decide +kernel
theorem dX12_holds_21 : decode cX12_holds 21 = .ok (.ireturn, 1) := by decide +kernel
theorem dX12_holds_22 : decode cX12_holds 22 = .ok (.aload_n 0, 1) := by decide +kernel
theorem dX12_holds_23 : decode cX12_holds 23 = .ok (.getfield 40, 3) := by decide +kernel
theorem dX12_holds_26 : decode cX12_holds 26 = .ok (.iload_n 1, 1) := by decide +kernel
theorem dX12_holds_27 : decode cX12_holds 27 = .ok (.baload, 1) := by decide +kernel
theorem dX12_holds_28 : decode cX12_holds 28 = .ok (.iload_n 2, 1) := by decide +kernel
theorem dX12_holds_29 : decode cX12_holds 29 = .ok (.if_icmp .eq 5, 3) := by decide +kernel
theorem dX12_holds_32 : decode cX12_holds 32 = .ok (.iconst 0, 1) := by decide +kernel
theorem dX12_holds_33 : decode cX12_holds 33 = .ok (.ireturn, 1) := by decide +kernel
theorem dX12_holds_34 : decode cX12_holds 34 = .ok (.aload_n 0, 1) := by decide +kernel
theorem dX12_holds_35 : decode cX12_holds 35 = .ok (.getfield 40, 3) := by decide +kernel
theorem dX12_holds_38 : decode cX12_holds 38 = .ok (.iload_n 1, 1) := by decide +kernel
theorem dX12_holds_39 : decode cX12_holds 39 = .ok (.iload_n 2, 1) := by decide +kernel
theorem dX12_holds_40 : decode cX12_holds 40 = .ok (.ifCond .ne 7, 3) := by decide +kernel
theorem dX12_holds_43 : decode cX12_holds 43 = .ok (.iconst 1, 1) := by decide +kernel
theorem dX12_holds_44 : decode cX12_holds 44 = .ok (.goto 4, 3) := by decide +kernel
theorem dX12_holds_47 : decode cX12_holds 47 = .ok (.iconst 0, 1) := by decide +kernel
theorem dX12_holds_48 : decode cX12_holds 48 = .ok (.bastore, 1) := by decide +kernel
theorem dX12_holds_49 : decode cX12_holds 49 = .ok (.aload_n 0, 1) := by decide +kernel
theorem dX12_holds_50 : decode cX12_holds 50 = .ok (.iconst 0, 1) := by decide +kernel
theorem dX12_holds_51 : decode cX12_holds 51 = .ok (.putfield 121, 3) := by decide +kernel
theorem dX12_holds_54 : decode cX12_holds 54 = .ok (.iconst 1, 1) := by decide +kernel
theorem dX12_holds_55 : decode cX12_holds 55 = .ok (.ireturn, 1) := by decide +kernel
theorem dX12_unit_0 : decode cX12_unit 0 = .ok (.aload_n 0, 1) := by decide +kernel
theorem dX12_unit_1 : decode cX12_unit 1 = .ok (.invokevirtual 166, 3) := by decide +kernel
theorem dX12_unit_4 : decode cX12_unit 4 = .ok (.istore_n 2, 1) := by decide +kernel
theorem dX12_unit_5 : decode cX12_unit 5 = .ok (.iload_n 2, 1) := by decide +kernel
theorem dX12_unit_6 : decode cX12_unit 6 = .ok (.bipush 120, 2) := by decide +kernel
theorem dX12_unit_8 : decode cX12_unit 8 = .ok (.if_icmp .ne 18, 3) := by decide +kernel
theorem dX12_unit_11 : decode cX12_unit 11 = .ok (.aload_n 0, 1) := by decide +kernel
theorem dX12_unit_12 : decode cX12_unit 12 = .ok (.dup, 1) := by decide +kernel
theorem dX12_unit_13 : decode cX12_unit 13 = .ok (.getfield 163, 3) := by decide +kernel
theorem dX12_unit_16 : decode cX12_unit 16 = .ok (.iconst 1, 1) := by decide +kernel
theorem dX12_unit_17 : decode cX12_unit 17 = .ok (.iadd, 1) := by decide +kernel
theorem dX12_unit_18 : decode cX12_unit 18 = .ok (.putfield 163, 3) := by decide +kernel
theorem dX12_unit_21 : decode cX12_unit 21 = .ok (.aload_n 0, 1) := by decide +kernel
theorem dX12_unit_22 : decode cX12_unit 22 = .ok (.invokevirtual 173, 3) := by decide +kernel
theorem dX12_unit_25 : decode cX12_unit 25 = .ok (.ireturn, 1) := by decide +kernel
theorem dX12_unit_26 : decode cX12_unit 26 = .ok (.iload_n 2, 1) := by decide +kernel
theorem dX12_unit_27 : decode cX12_unit 27 = .ok (.bipush 115, 2) := by decide +kernel
theorem dX12_unit_29 : decode cX12_unit 29 = .ok (.if_icmp .ne 58, 3) := by decide +kernel
theorem dX12_unit_32 : decode cX12_unit 32 = .ok (.aload_n 0, 1) := by decide +kernel
theorem dX12_unit_33 : decode cX12_unit 33 = .ok (.dup, 1) := by decide +kernel
theorem dX12_unit_34 : decode cX12_unit 34 = .ok (.getfield 163, 3) := by decide +kernel
theorem dX12_unit_37 : decode cX12_unit 37 = .ok (.iconst 1, 1) := by decide +kernel
theorem dX12_unit_38 : decode cX12_unit 38 = .ok (.iadd, 1) := by decide +kernel
theorem dX12_unit_39 : decode cX12_unit 39 = .ok (.putfield 163, 3) := by decide +kernel
theorem dX12_unit_42 : decode cX12_unit 42 = .ok (.aload_n 0, 1) := by decide +kernel
theorem dX12_unit_43 : decode cX12_unit 43 = .ok (.invokevirtual 166, 3) := by decide +kernel
theorem dX12_unit_46 : decode cX12_unit 46 = .ok (.bipush 48, 2) := by decide +kernel
theorem dX12_unit_48 : decode cX12_unit 48 = .ok (.isub, 1) := by decide +kernel
theorem dX12_unit_49 : decode cX12_unit 49 = .ok (.istore_n 3, 1) := by decide +kernel
theorem dX12_unit_50 : decode cX12_unit 50 = .ok (.aload_n 0, 1) := by decide +kernel
theorem dX12_unit_51 : decode cX12_unit 51 = .ok (.iload_n 3, 1) := by decide +kernel
theorem dX12_unit_52 : decode cX12_unit 52 = .ok (.invokevirtual 117, 3) := by decide +kernel
theorem dX12_unit_55 : decode cX12_unit 55 = .ok (.ifCond .eq 18, 3) := by decide +kernel
theorem dX12_unit_58 : decode cX12_unit 58 = .ok (.aload_n 0, 1) := by decide +kernel
theorem dX12_unit_59 : decode cX12_unit 59 = .ok (.getfield 13, 3) := by decide +kernel
theorem dX12_unit_62 : decode cX12_unit 62 = .ok (.bipush 6, 2) := by decide +kernel
theorem dX12_unit_64 : decode cX12_unit 64 = .ok (.iload_n 3, 1) := by decide +kernel
theorem dX12_unit_65 : decode cX12_unit 65 = .ok (.imul, 1) := by decide +kernel
theorem dX12_unit_66 : decode cX12_unit 66 = .ok (.iconst 5, 1) := by decide +kernel
theorem dX12_unit_67 : decode cX12_unit 67 = .ok (.iadd, 1) := by decide +kernel
theorem dX12_unit_68 : decode cX12_unit 68 = .ok (.iaload, 1) := by decide +kernel
theorem dX12_unit_69 : decode cX12_unit 69 = .ok (.iload_n 1, 1) := by decide +kernel
theorem dX12_unit_70 : decode cX12_unit 70 = .ok (.if_icmp .le 5, 3) := by decide +kernel
theorem dX12_unit_73 : decode cX12_unit 73 = .ok (.iconst 0, 1) := by decide +kernel
theorem dX12_unit_74 : decode cX12_unit 74 = .ok (.ireturn, 1) := by decide +kernel
theorem dX12_unit_75 : decode cX12_unit 75 = .ok (.aload_n 0, 1) := by decide +kernel
theorem dX12_unit_76 : decode cX12_unit 76 = .ok (.dup, 1) := by decide +kernel
theorem dX12_unit_77 : decode cX12_unit 77 = .ok (.getfield 163, 3) := by decide +kernel
theorem dX12_unit_80 : decode cX12_unit 80 = .ok (.iconst 1, 1) := by decide +kernel
theorem dX12_unit_81 : decode cX12_unit 81 = .ok (.iadd, 1) := by decide +kernel
theorem dX12_unit_82 : decode cX12_unit 82 = .ok (.putfield 163, 3) := by decide +kernel
theorem dX12_unit_85 : decode cX12_unit 85 = .ok (.iconst 1, 1) := by decide +kernel
theorem dX12_unit_86 : decode cX12_unit 86 = .ok (.ireturn, 1) := by decide +kernel
theorem dX12_unit_87 : decode cX12_unit 87 = .ok (.iload_n 2, 1) := by decide +kernel
theorem dX12_unit_88 : decode cX12_unit 88 = .ok (.invokestatic 170, 3) := by decide +kernel
theorem dX12_unit_91 : decode cX12_unit 91 = .ok (.ifCond .ne 5, 3) := by decide +kernel
theorem dX12_unit_94 : decode cX12_unit 94 = .ok (.iconst 0, 1) := by decide +kernel
theorem dX12_unit_95 : decode cX12_unit 95 = .ok (.ireturn, 1) := by decide +kernel
theorem dX12_unit_96 : decode cX12_unit 96 = .ok (.iconst 0, 1) := by decide +kernel
theorem dX12_unit_97 : decode cX12_unit 97 = .ok (.istore_n 3, 1) := by decide +kernel
theorem dX12_unit_98 : decode cX12_unit 98 = .ok (.iload_n 3, 1) := by decide +kernel
theorem dX12_unit_99 : decode cX12_unit 99 = .ok (.iconst 3, 1) := by decide +kernel
theorem dX12_unit_100 : decode cX12_unit 100 = .ok (.if_icmp .ge 29, 3) := by decide +kernel
theorem dX12_unit_103 : decode cX12_unit 103 = .ok (.aload_n 0, 1) := by decide +kernel
theorem dX12_unit_104 : decode cX12_unit 104 = .ok (.invokevirtual 166, 3) := by decide +kernel
theorem dX12_unit_107 : decode cX12_unit 107 = .ok (.invokestatic 170, 3) := by decide +kernel
theorem dX12_unit_110 : decode cX12_unit 110 = .ok (.ifCond .eq 19, 3) := by decide +kernel
theorem dX12_unit_113 : decode cX12_unit 113 = .ok (.aload_n 0, 1) := by decide +kernel
theorem dX12_unit_114 : decode cX12_unit 114 = .ok (.dup, 1) := by decide +kernel
theorem dX12_unit_115 : decode cX12_unit 115 = .ok (.getfield 163, 3) := by decide +kernel
theorem dX12_unit_118 : decode cX12_unit 118 = .ok (.iconst 1, 1) := by decide +kernel
theorem dX12_unit_119 : decode cX12_unit 119 = .ok (.iadd, 1) := by decide +kernel
theorem dX12_unit_120 : decode cX12_unit 120 = .ok (.putfield 163, 3) := by decide +kernel
theorem dX12_unit_123 : decode cX12_unit 123 = .ok (.iinc 3 1, 3) := by decide +kernel
theorem dX12_unit_126 : decode cX12_unit 126 = .ok (.goto (-28), 3) := by decide +kernel
theorem dX12_unit_129 : decode cX12_unit 129 = .ok (.iconst 1, 1) := by decide +kernel
theorem dX12_unit_130 : decode cX12_unit 130 = .ok (.ireturn, 1) := by decide +kernel
theorem dX12_isRule_0 : decode cX12_isRule 0 = .ok (.aload_n 0, 1) := by decide +kernel
theorem dX12_isRule_1 : decode cX12_isRule 1 = .ok (.iconst 0, 1) := by decide +kernel
theorem dX12_isRule_2 : decode cX12_isRule 2 = .ok (.putfield 163, 3) := by decide +kernel
theorem dX12_isRule_5 : decode cX12_isRule 5 = .ok (.iconst 0, 1) := by decide +kernel
theorem dX12_isRule_6 : decode cX12_isRule 6 = .ok (.istore_n 2, 1) := by decide +kernel
theorem dX12_isRule_7 : decode cX12_isRule 7 = .ok (.aload_n 0, 1) := by decide +kernel
theorem dX12_isRule_8 : decode cX12_isRule 8 = .ok (.invokevirtual 166, 3) := by decide +kernel
theorem dX12_isRule_11 : decode cX12_isRule 11 = .ok (.bipush 40, 2) := by decide +kernel
theorem dX12_isRule_13 : decode cX12_isRule 13 = .ok (.if_icmp .ne 26, 3) := by decide +kernel
theorem dX12_isRule_16 : decode cX12_isRule 16 = .ok (.iload_n 2, 1) := by decide +kernel
theorem dX12_isRule_17 : decode cX12_isRule 17 = .ok (.iconst 4, 1) := by decide +kernel
theorem dX12_isRule_18 : decode cX12_isRule 18 = .ok (.if_icmp .ne 5, 3) := by decide +kernel
theorem dX12_isRule_21 : decode cX12_isRule 21 = .ok (.iconst 0, 1) := by decide +kernel
theorem dX12_isRule_22 : decode cX12_isRule 22 = .ok (.ireturn, 1) := by decide +kernel
theorem dX12_isRule_23 : decode cX12_isRule 23 = .ok (.iinc 2 1, 3) := by decide +kernel
theorem dX12_isRule_26 : decode cX12_isRule 26 = .ok (.aload_n 0, 1) := by decide +kernel
theorem dX12_isRule_27 : decode cX12_isRule 27 = .ok (.dup, 1) := by decide +kernel
theorem dX12_isRule_28 : decode cX12_isRule 28 = .ok (.getfield 163, 3) := by decide +kernel
theorem dX12_isRule_31 : decode cX12_isRule 31 = .ok (.iconst 1, 1) := by decide +kernel
theorem dX12_isRule_32 : decode cX12_isRule 32 = .ok (.iadd, 1) := by decide +kernel
theorem dX12_isRule_33 : decode cX12_isRule 33 = .ok (.putfield 163, 3) := by decide +kernel
theorem dX12_isRule_36 : decode cX12_isRule 36 = .ok (.goto (-29), 3) := by decide +kernel
theorem dX12_isRule_39 : decode cX12_isRule 39 = .ok (.aload_n 0, 1) := by decide +kernel
theorem dX12_isRule_40 : decode cX12_isRule 40 = .ok (.iload_n 1, 1) := by decide +kernel
theorem dX12_isRule_41 : decode cX12_isRule 41 = .ok (.invokevirtual 192, 3) := by decide +kernel
theorem dX12_isRule_44 : decode cX12_isRule 44 = .ok (.ifCond .ne 5, 3) := by decide +kernel
theorem dX12_isRule_47 : decode cX12_isRule 47 = .ok (.iconst 0, 1) := by decide +kernel
theorem dX12_isRule_48 : decode cX12_isRule 48 = .ok (.ireturn, 1) := by decide +kernel
theorem dX12_isRule_49 : decode cX12_isRule 49 = .ok (.aload_n 0, 1) := by decide +kernel
theorem dX12_isRule_50 : decode cX12_isRule 50 = .ok (.invokevirtual 166, 3) := by decide +kernel
theorem dX12_isRule_53 : decode cX12_isRule 53 = .ok (.bipush 41, 2) := by decide +kernel
theorem dX12_isRule_55 : decode cX12_isRule 55 = .ok (.if_icmp .ne 23, 3) := by decide +kernel
theorem dX12_isRule_58 : decode cX12_isRule 58 = .ok (.iload_n 2, 1) := by decide +kernel
theorem dX12_isRule_59 : decode cX12_isRule 59 = .ok (.ifCond .le 19, 3) := by decide +kernel
theorem dX12_isRule_62 : decode cX12_isRule 62 = .ok (.iinc 2 (-1), 3) := by decide +kernel
theorem dX12_isRule_65 : decode cX12_isRule 65 = .ok (.aload_n 0, 1) := by decide +kernel
theorem dX12_isRule_66 : decode cX12_isRule 66 = .ok (.dup, 1) := by decide +kernel
theorem dX12_isRule_67 : decode cX12_isRule 67 = .ok (.getfield 163, 3) := by decide +kernel
theorem dX12_isRule_70 : decode cX12_isRule 70 = .ok (.iconst 1, 1) := by decide +kernel
theorem dX12_isRule_71 : decode cX12_isRule 71 = .ok (.iadd, 1) := by decide +kernel
theorem dX12_isRule_72 : decode cX12_isRule 72 = .ok (.putfield 163, 3) := by decide +kernel
theorem dX12_isRule_75 : decode cX12_isRule 75 = .ok (.goto (-26), 3) := by decide +kernel
theorem dX12_isRule_78 : decode cX12_isRule 78 = .ok (.aload_n 0, 1) := by decide +kernel
theorem dX12_isRule_79 : decode cX12_isRule 79 = .ok (.invokevirtual 166, 3) := by decide +kernel
theorem dX12_isRule_82 : decode cX12_isRule 82 = .ok (.iconst (-1), 1) := by decide +kernel
theorem dX12_isRule_83 : decode cX12_isRule 83 = .ok (.if_icmp .ne 9, 3) := by decide +kernel
theorem dX12_isRule_86 : decode cX12_isRule 86 = .ok (.iload_n 2, 1) := by decide +kernel
theorem dX12_isRule_87 : decode cX12_isRule 87 = .ok (.ifCond .ne 5, 3) := by decide +kernel
theorem dX12_isRule_90 : decode cX12_isRule 90 = .ok (.iconst 1, 1) := by decide +kernel
theorem dX12_isRule_91 : decode cX12_isRule 91 = .ok (.ireturn, 1) := by decide +kernel
theorem dX12_isRule_92 : decode cX12_isRule 92 = .ok (.aload_n 0, 1) := by decide +kernel
theorem dX12_isRule_93 : decode cX12_isRule 93 = .ok (.invokevirtual 166, 3) := by decide +kernel
theorem dX12_isRule_96 : decode cX12_isRule 96 = .ok (.bipush 43, 2) := by decide +kernel
theorem dX12_isRule_98 : decode cX12_isRule 98 = .ok (.if_icmp .eq 23, 3) := by decide +kernel
theorem dX12_isRule_101 : decode cX12_isRule 101 = .ok (.aload_n 0, 1) := by decide +kernel
theorem dX12_isRule_102 : decode cX12_isRule 102 = .ok (.invokevirtual 166, 3) := by decide +kernel
theorem dX12_isRule_105 : decode cX12_isRule 105 = .ok (.bipush 45, 2) := by decide +kernel
theorem dX12_isRule_107 : decode cX12_isRule 107 = .ok (.if_icmp .eq 14, 3) := by decide +kernel
theorem dX12_isRule_110 : decode cX12_isRule 110 = .ok (.aload_n 0, 1) := by decide +kernel
theorem dX12_isRule_111 : decode cX12_isRule 111 = .ok (.invokevirtual 166, 3) := by decide +kernel
theorem dX12_isRule_114 : decode cX12_isRule 114 = .ok (.bipush 42, 2) := by decide +kernel
theorem dX12_isRule_116 : decode cX12_isRule 116 = .ok (.if_icmp .eq 5, 3) := by decide +kernel
theorem dX12_isRule_119 : decode cX12_isRule 119 = .ok (.iconst 0, 1) := by decide +kernel
theorem dX12_isRule_120 : decode cX12_isRule 120 = .ok (.ireturn, 1) := by decide +kernel
theorem dX12_isRule_121 : decode cX12_isRule 121 = .ok (.aload_n 0, 1) := by decide +kernel
theorem dX12_isRule_122 : decode cX12_isRule 122 = .ok (.dup, 1) := by decide +kernel
theorem dX12_isRule_123 : decode cX12_isRule 123 = .ok (.getfield 163, 3) := by decide +kernel
theorem dX12_isRule_126 : decode cX12_isRule 126 = .ok (.iconst 1, 1) := by decide +kernel
theorem dX12_isRule_127 : decode cX12_isRule 127 = .ok (.iadd, 1) := by decide +kernel
theorem dX12_isRule_128 : decode cX12_isRule 128 = .ok (.putfield 163, 3) := by decide +kernel
theorem dX12_isRule_131 : decode cX12_isRule 131 = .ok (.goto (-124), 3) := by decide +kernel
theorem dX12_rule_0 : decode cX12_rule 0 = .ok (.aload_n 0, 1) := by decide +kernel
theorem dX12_rule_1 : decode cX12_rule 1 = .ok (.iload_n 1, 1) := by decide +kernel
theorem dX12_rule_2 : decode cX12_rule 2 = .ok (.invokevirtual 117, 3) := by decide +kernel
theorem dX12_rule_5 : decode cX12_rule 5 = .ok (.ifCond .ne 9, 3) := by decide +kernel
theorem dX12_rule_8 : decode cX12_rule 8 = .ok (.aload_n 0, 1) := by decide +kernel
theorem dX12_rule_9 : decode cX12_rule 9 = .ok (.iconst (-1), 1) := by decide +kernel
theorem dX12_rule_10 : decode cX12_rule 10 = .ok (.invokevirtual 113, 3) := by decide +kernel
theorem dX12_rule_13 : decode cX12_rule 13 = .ok (.ireturn, 1) := by decide +kernel
theorem dX12_rule_14 : decode cX12_rule 14 = .ok (.iload_n 2, 1) := by decide +kernel
theorem dX12_rule_15 : decode cX12_rule 15 = .ok (.i2l, 1) := by decide +kernel
theorem dX12_rule_16 : decode cX12_rule 16 = .ok (.lconst 0, 1) := by decide +kernel
theorem dX12_rule_17 : decode cX12_rule 17 = .ok (.ldc2_w 133, 3) := by decide +kernel
theorem dX12_rule_20 : decode cX12_rule 20 = .ok (.invokestatic 137, 3) := by decide +kernel
theorem dX12_rule_23 : decode cX12_rule 23 = .ok (.istore_n 3, 1) := by decide +kernel
theorem dX12_rule_24 : decode cX12_rule 24 = .ok (.iload_n 3, 1) := by decide +kernel
theorem dX12_rule_25 : decode cX12_rule 25 = .ok (.ifCond .eq 9, 3) := by decide +kernel
theorem dX12_rule_28 : decode cX12_rule 28 = .ok (.aload_n 0, 1) := by decide +kernel
theorem dX12_rule_29 : decode cX12_rule 29 = .ok (.iload_n 3, 1) := by decide +kernel
theorem dX12_rule_30 : decode cX12_rule 30 = .ok (.invokevirtual 113, 3) := by decide +kernel
theorem dX12_rule_33 : decode cX12_rule 33 = .ok (.ireturn, 1) := by decide +kernel
theorem dX12_rule_34 : decode cX12_rule 34 = .ok (.aload_n 0, 1) := by decide +kernel
theorem dX12_rule_35 : decode cX12_rule 35 = .ok (.iload_n 2, 1) := by decide +kernel
theorem dX12_rule_36 : decode cX12_rule 36 = .ok (.invokevirtual 195, 3) := by decide +kernel
theorem dX12_rule_39 : decode cX12_rule 39 = .ok (.istore 4, 2) := by decide +kernel
theorem dX12_rule_41 : decode cX12_rule 41 = .ok (.aload_n 0, 1) := by decide +kernel
theorem dX12_rule_42 : decode cX12_rule 42 = .ok (.getfield 160, 3) := by decide +kernel
theorem dX12_rule_45 : decode cX12_rule 45 = .ok (.istore 5, 2) := by decide +kernel
theorem dX12_rule_47 : decode cX12_rule 47 = .ok (.aload_n 0, 1) := by decide +kernel
theorem dX12_rule_48 : decode cX12_rule 48 = .ok (.iconst 0, 1) := by decide +kernel
theorem dX12_rule_49 : decode cX12_rule 49 = .ok (.putfield 160, 3) := by decide +kernel
theorem dX12_rule_52 : decode cX12_rule 52 = .ok (.iload 4, 2) := by decide +kernel
theorem dX12_rule_54 : decode cX12_rule 54 = .ok (.ifCond .ne 11, 3) := by decide +kernel
theorem dX12_rule_57 : decode cX12_rule 57 = .ok (.bipush (-20), 2) := by decide +kernel
theorem dX12_rule_59 : decode cX12_rule 59 = .ok (.aload_n 0, 1) := by decide +kernel
theorem dX12_rule_60 : decode cX12_rule 60 = .ok (.getfield 163, 3) := by decide +kernel
theorem dX12_rule_63 : decode cX12_rule 63 = .ok (.isub, 1) := by decide +kernel
theorem dX12_rule_64 : decode cX12_rule 64 = .ok (.ireturn, 1) := by decide +kernel
theorem dX12_rule_65 : decode cX12_rule 65 = .ok (.iconst 0, 1) := by decide +kernel
theorem dX12_rule_66 : decode cX12_rule 66 = .ok (.istore 6, 2) := by decide +kernel
theorem dX12_rule_68 : decode cX12_rule 68 = .ok (.iload 6, 2) := by decide +kernel
theorem dX12_rule_70 : decode cX12_rule 70 = .ok (.iload 5, 2) := by decide +kernel
theorem dX12_rule_72 : decode cX12_rule 72 = .ok (.if_icmp .ge 28, 3) := by decide +kernel
theorem dX12_rule_75 : decode cX12_rule 75 = .ok (.aload_n 0, 1) := by decide +kernel
theorem dX12_rule_76 : decode cX12_rule 76 = .ok (.getfield 31, 3) := by decide +kernel
theorem dX12_rule_79 : decode cX12_rule 79 = .ok (.bipush 40, 2) := by decide +kernel
theorem dX12_rule_81 : decode cX12_rule 81 = .ok (.iload_n 1, 1) := by decide +kernel
theorem dX12_rule_82 : decode cX12_rule 82 = .ok (.imul, 1) := by decide +kernel
theorem dX12_rule_83 : decode cX12_rule 83 = .ok (.iload 6, 2) := by decide +kernel
theorem dX12_rule_85 : decode cX12_rule 85 = .ok (.iadd, 1) := by decide +kernel
theorem dX12_rule_86 : decode cX12_rule 86 = .ok (.aload_n 0, 1) := by decide +kernel
theorem dX12_rule_87 : decode cX12_rule 87 = .ok (.getfield 22, 3) := by decide +kernel
theorem dX12_rule_90 : decode cX12_rule 90 = .ok (.iload 6, 2) := by decide +kernel
theorem dX12_rule_92 : decode cX12_rule 92 = .ok (.iaload, 1) := by decide +kernel
theorem dX12_rule_93 : decode cX12_rule 93 = .ok (.iastore, 1) := by decide +kernel
theorem dX12_rule_94 : decode cX12_rule 94 = .ok (.iinc 6 1, 3) := by decide +kernel
theorem dX12_rule_97 : decode cX12_rule 97 = .ok (.goto (-29), 3) := by decide +kernel
theorem dX12_rule_100 : decode cX12_rule 100 = .ok (.aload_n 0, 1) := by decide +kernel
theorem dX12_rule_101 : decode cX12_rule 101 = .ok (.getfield 34, 3) := by decide +kernel
theorem dX12_rule_104 : decode cX12_rule 104 = .ok (.iload_n 1, 1) := by decide +kernel
theorem dX12_rule_105 : decode cX12_rule 105 = .ok (.iload 5, 2) := by decide +kernel
theorem dX12_rule_107 : decode cX12_rule 107 = .ok (.iastore, 1) := by decide +kernel
theorem dX12_rule_108 : decode cX12_rule 108 = .ok (.aload_n 0, 1) := by decide +kernel
theorem dX12_rule_109 : decode cX12_rule 109 = .ok (.getfield 44, 3) := by decide +kernel
theorem dX12_rule_112 : decode cX12_rule 112 = .ok (.iload_n 1, 1) := by decide +kernel
theorem dX12_rule_113 : decode cX12_rule 113 = .ok (.iconst 1, 1) := by decide +kernel
theorem dX12_rule_114 : decode cX12_rule 114 = .ok (.bastore, 1) := by decide +kernel
theorem dX12_rule_115 : decode cX12_rule 115 = .ok (.iconst 1, 1) := by decide +kernel
theorem dX12_rule_116 : decode cX12_rule 116 = .ok (.ireturn, 1) := by decide +kernel
theorem dX12_unrule_0 : decode cX12_unrule 0 = .ok (.aload_n 0, 1) := by decide +kernel
theorem dX12_unrule_1 : decode cX12_unrule 1 = .ok (.iload_n 1, 1) := by decide +kernel
theorem dX12_unrule_2 : decode cX12_unrule 2 = .ok (.invokevirtual 117, 3) := by decide +kernel
theorem dX12_unrule_5 : decode cX12_unrule 5 = .ok (.ifCond .ne 9, 3) := by decide +kernel
theorem dX12_unrule_8 : decode cX12_unrule 8 = .ok (.aload_n 0, 1) := by decide +kernel
theorem dX12_unrule_9 : decode cX12_unrule 9 = .ok (.iconst (-1), 1) := by decide +kernel
theorem dX12_unrule_10 : decode cX12_unrule 10 = .ok (.invokevirtual 113, 3) := by decide +kernel
theorem dX12_unrule_13 : decode cX12_unrule 13 = .ok (.ireturn, 1) := by decide +kernel
theorem dX12_unrule_14 : decode cX12_unrule 14 = .ok (.aload_n 0, 1) := by decide +kernel
theorem dX12_unrule_15 : decode cX12_unrule 15 = .ok (.getfield 44, 3) := by decide +kernel
theorem dX12_unrule_18 : decode cX12_unrule 18 = .ok (.iload_n 1, 1) := by decide +kernel
theorem dX12_unrule_19 : decode cX12_unrule 19 = .ok (.baload, 1) := by decide +kernel
theorem dX12_unrule_20 : decode cX12_unrule 20 = .ok (.ifCond .eq 7, 3) := by decide +kernel
theorem dX12_unrule_23 : decode cX12_unrule 23 = .ok (.iconst 1, 1) := by decide +kernel
theorem dX12_unrule_24 : decode cX12_unrule 24 = .ok (.goto 4, 3) := by decide +kernel
theorem dX12_unrule_27 : decode cX12_unrule 27 = .ok (.iconst 0, 1) := by decide +kernel
theorem dX12_unrule_28 : decode cX12_unrule 28 = .ok (.istore_n 2, 1) := by decide +kernel
theorem dX12_unrule_29 : decode cX12_unrule 29 = .ok (.aload_n 0, 1) := by decide +kernel
theorem dX12_unrule_30 : decode cX12_unrule 30 = .ok (.getfield 44, 3) := by decide +kernel
theorem dX12_unrule_33 : decode cX12_unrule 33 = .ok (.iload_n 1, 1) := by decide +kernel
theorem dX12_unrule_34 : decode cX12_unrule 34 = .ok (.iconst 0, 1) := by decide +kernel
theorem dX12_unrule_35 : decode cX12_unrule 35 = .ok (.bastore, 1) := by decide +kernel
theorem dX12_unrule_36 : decode cX12_unrule 36 = .ok (.iload_n 2, 1) := by decide +kernel
theorem dX12_unrule_37 : decode cX12_unrule 37 = .ok (.ireturn, 1) := by decide +kernel
theorem dX12_push_0 : decode cX12_push 0 = .ok (.aload_n 0, 1) := by decide +kernel
theorem dX12_push_1 : decode cX12_push 1 = .ok (.getfield 50, 3) := by decide +kernel
theorem dX12_push_4 : decode cX12_push 4 = .ok (.aload_n 0, 1) := by decide +kernel
theorem dX12_push_5 : decode cX12_push 5 = .ok (.getfield 198, 3) := by decide +kernel
theorem dX12_push_8 : decode cX12_push 8 = .ok (.iload_n 1, 1) := by decide +kernel
theorem dX12_push_9 : decode cX12_push 9 = .ok (.iastore, 1) := by decide +kernel
theorem dX12_push_10 : decode cX12_push 10 = .ok (.aload_n 0, 1) := by decide +kernel
theorem dX12_push_11 : decode cX12_push 11 = .ok (.dup, 1) := by decide +kernel
theorem dX12_push_12 : decode cX12_push 12 = .ok (.getfield 198, 3) := by decide +kernel
theorem dX12_push_15 : decode cX12_push 15 = .ok (.iconst 1, 1) := by decide +kernel
theorem dX12_push_16 : decode cX12_push 16 = .ok (.iadd, 1) := by decide +kernel
theorem dX12_push_17 : decode cX12_push 17 = .ok (.putfield 198, 3) := by decide +kernel
theorem dX12_push_20 : decode cX12_push 20 = .ok (.return_, 1) := by decide +kernel
theorem dX12_waitsFor_0 : decode cX12_waitsFor 0 = .ok (.aload_n 0, 1) := by decide +kernel
theorem dX12_waitsFor_1 : decode cX12_waitsFor 1 = .ok (.getfield 47, 3) := by decide +kernel
theorem dX12_waitsFor_4 : decode cX12_waitsFor 4 = .ok (.aload_n 0, 1) := by decide +kernel
theorem dX12_waitsFor_5 : decode cX12_waitsFor 5 = .ok (.getfield 201, 3) := by decide +kernel
theorem dX12_waitsFor_8 : decode cX12_waitsFor 8 = .ok (.iload_n 1, 1) := by decide +kernel
theorem dX12_waitsFor_9 : decode cX12_waitsFor 9 = .ok (.iastore, 1) := by decide +kernel
theorem dX12_waitsFor_10 : decode cX12_waitsFor 10 = .ok (.aload_n 0, 1) := by decide +kernel
theorem dX12_waitsFor_11 : decode cX12_waitsFor 11 = .ok (.dup, 1) := by decide +kernel
theorem dX12_waitsFor_12 : decode cX12_waitsFor 12 = .ok (.getfield 201, 3) := by decide +kernel
theorem dX12_waitsFor_15 : decode cX12_waitsFor 15 = .ok (.iconst 1, 1) := by decide +kernel
theorem dX12_waitsFor_16 : decode cX12_waitsFor 16 = .ok (.iadd, 1) := by decide +kernel
theorem dX12_waitsFor_17 : decode cX12_waitsFor 17 = .ok (.putfield 201, 3) := by decide +kernel
theorem dX12_waitsFor_20 : decode cX12_waitsFor 20 = .ok (.return_, 1) := by decide +kernel
theorem dX12_bits_0 : decode cX12_bits 0 = .ok (.iconst 0, 1) := by decide +kernel
theorem dX12_bits_1 : decode cX12_bits 1 = .ok (.istore_n 1, 1) := by decide +kernel
theorem dX12_bits_2 : decode cX12_bits 2 = .ok (.iconst 0, 1) := by decide +kernel
theorem dX12_bits_3 : decode cX12_bits 3 = .ok (.istore_n 2, 1) := by decide +kernel
theorem dX12_bits_4 : decode cX12_bits 4 = .ok (.iload_n 2, 1) := by decide +kernel
theorem dX12_bits_5 : decode cX12_bits 5 = .ok (.bipush 31, 2) := by decide +kernel
theorem dX12_bits_7 : decode cX12_bits 7 = .ok (.if_icmp .ge 17, 3) := by decide +kernel
theorem dX12_bits_10 : decode cX12_bits 10 = .ok (.iload_n 1, 1) := by decide +kernel
theorem dX12_bits_11 : decode cX12_bits 11 = .ok (.iload_n 0, 1) := by decide +kernel
theorem dX12_bits_12 : decode cX12_bits 12 = .ok (.iload_n 2, 1) := by decide +kernel
theorem dX12_bits_13 : decode cX12_bits 13 = .ok (.ishr, 1) := by decide +kernel
theorem dX12_bits_14 : decode cX12_bits 14 = .ok (.iconst 1, 1) := by decide +kernel
theorem dX12_bits_15 : decode cX12_bits 15 = .ok (.iand, 1) := by decide +kernel
theorem dX12_bits_16 : decode cX12_bits 16 = .ok (.iadd, 1) := by decide +kernel
theorem dX12_bits_17 : decode cX12_bits 17 = .ok (.istore_n 1, 1) := by decide +kernel
theorem dX12_bits_18 : decode cX12_bits 18 = .ok (.iinc 2 1, 3) := by decide +kernel
theorem dX12_bits_21 : decode cX12_bits 21 = .ok (.goto (-17), 3) := by decide +kernel
theorem dX12_bits_24 : decode cX12_bits 24 = .ok (.iload_n 1, 1) := by decide +kernel
theorem dX12_bits_25 : decode cX12_bits 25 = .ok (.ireturn, 1) := by decide +kernel
theorem dX12_lawSign_0 : decode cX12_lawSign 0 = .ok (.aload_n 0, 1) := by decide +kernel
theorem dX12_lawSign_1 : decode cX12_lawSign 1 = .ok (.getfield 204, 3) := by decide +kernel
theorem dX12_lawSign_4 : decode cX12_lawSign 4 = .ok (.aload_n 0, 1) := by decide +kernel
theorem dX12_lawSign_5 : decode cX12_lawSign 5 = .ok (.getfield 28, 3) := by decide +kernel
theorem dX12_lawSign_8 : decode cX12_lawSign 8 = .ok (.iload_n 1, 1) := by decide +kernel
theorem dX12_lawSign_9 : decode cX12_lawSign 9 = .ok (.iaload, 1) := by decide +kernel
theorem dX12_lawSign_10 : decode cX12_lawSign 10 = .ok (.if_icmp .ge 20, 3) := by decide +kernel
theorem dX12_lawSign_13 : decode cX12_lawSign 13 = .ok (.aload_n 0, 1) := by decide +kernel
theorem dX12_lawSign_14 : decode cX12_lawSign 14 = .ok (.getfield 25, 3) := by decide +kernel
theorem dX12_lawSign_17 : decode cX12_lawSign 17 = .ok (.bipush 40, 2) := by decide +kernel
theorem dX12_lawSign_19 : decode cX12_lawSign 19 = .ok (.iload_n 1, 1) := by decide +kernel
theorem dX12_lawSign_20 : decode cX12_lawSign 20 = .ok (.imul, 1) := by decide +kernel
theorem dX12_lawSign_21 : decode cX12_lawSign 21 = .ok (.aload_n 0, 1) := by decide +kernel
theorem dX12_lawSign_22 : decode cX12_lawSign 22 = .ok (.getfield 204, 3) := by decide +kernel
theorem dX12_lawSign_25 : decode cX12_lawSign 25 = .ok (.iadd, 1) := by decide +kernel
theorem dX12_lawSign_26 : decode cX12_lawSign 26 = .ok (.iaload, 1) := by decide +kernel
theorem dX12_lawSign_27 : decode cX12_lawSign 27 = .ok (.goto 4, 3) := by decide +kernel
theorem dX12_lawSign_30 : decode cX12_lawSign 30 = .ok (.iconst (-1), 1) := by decide +kernel
theorem dX12_lawSign_31 : decode cX12_lawSign 31 = .ok (.ireturn, 1) := by decide +kernel
theorem dX12_rank_0 : decode cX12_rank 0 = .ok (.iload_n 0, 1) := by decide +kernel
theorem dX12_rank_1 : decode cX12_rank 1 = .ok (.bipush 40, 2) := by decide +kernel
theorem dX12_rank_3 : decode cX12_rank 3 = .ok (.if_icmp .ne 7, 3) := by decide +kernel
theorem dX12_rank_6 : decode cX12_rank 6 = .ok (.iconst 0, 1) := by decide +kernel
theorem dX12_rank_7 : decode cX12_rank 7 = .ok (.goto 44, 3) := by decide +kernel
theorem dX12_rank_10 : decode cX12_rank 10 = .ok (.iload_n 0, 1) := by decide +kernel
theorem dX12_rank_11 : decode cX12_rank 11 = .ok (.bipush 124, 2) := by decide +kernel
theorem dX12_rank_13 : decode cX12_rank 13 = .ok (.if_icmp .ne 7, 3) := by decide +kernel
theorem dX12_rank_16 : decode cX12_rank 16 = .ok (.iconst 1, 1) := by decide +kernel
theorem dX12_rank_17 : decode cX12_rank 17 = .ok (.goto 34, 3) := by decide +kernel
theorem dX12_rank_20 : decode cX12_rank 20 = .ok (.iload_n 0, 1) := by decide +kernel
theorem dX12_rank_21 : decode cX12_rank 21 = .ok (.bipush 38, 2) := by decide +kernel
theorem dX12_rank_23 : decode cX12_rank 23 = .ok (.if_icmp .ne 7, 3) := by decide +kernel
theorem dX12_rank_26 : decode cX12_rank 26 = .ok (.iconst 2, 1) := by decide +kernel
theorem dX12_rank_27 : decode cX12_rank 27 = .ok (.goto 24, 3) := by decide +kernel
theorem dX12_rank_30 : decode cX12_rank 30 = .ok (.iload_n 0, 1) := by decide +kernel
theorem dX12_rank_31 : decode cX12_rank 31 = .ok (.bipush 33, 2) := by decide +kernel
theorem dX12_rank_33 : decode cX12_rank 33 = .ok (.if_icmp .ne 7, 3) := by decide +kernel
theorem dX12_rank_36 : decode cX12_rank 36 = .ok (.iconst 3, 1) := by decide +kernel
theorem dX12_rank_37 : decode cX12_rank 37 = .ok (.goto 14, 3) := by decide +kernel
theorem dX12_rank_40 : decode cX12_rank 40 = .ok (.iload_n 0, 1) := by decide +kernel
theorem dX12_rank_41 : decode cX12_rank 41 = .ok (.bipush 42, 2) := by decide +kernel
theorem dX12_rank_43 : decode cX12_rank 43 = .ok (.if_icmp .ne 7, 3) := by decide +kernel
theorem dX12_rank_46 : decode cX12_rank 46 = .ok (.iconst 5, 1) := by decide +kernel
theorem dX12_rank_47 : decode cX12_rank 47 = .ok (.goto 4, 3) := by decide +kernel
theorem dX12_rank_50 : decode cX12_rank 50 = .ok (.iconst 4, 1) := by decide +kernel
theorem dX12_rank_51 : decode cX12_rank 51 = .ok (.ireturn, 1) := by decide +kernel
theorem dX12_works_0 : decode cX12_works 0 = .ok (.aload_n 0, 1) := by decide +kernel
theorem dX12_works_1 : decode cX12_works 1 = .ok (.getfield 201, 3) := by decide +kernel
theorem dX12_works_4 : decode cX12_works 4 = .ok (.ifCond .le 177, 3) := by decide +kernel
theorem dX12_works_7 : decode cX12_works 7 = .ok (.aload_n 0, 1) := by decide +kernel
theorem dX12_works_8 : decode cX12_works 8 = .ok (.getfield 47, 3) := by decide +kernel
theorem dX12_works_11 : decode cX12_works 11 = .ok (.aload_n 0, 1) := by decide +kernel
theorem dX12_works_12 : decode cX12_works 12 = .ok (.getfield 201, 3) := by decide +kernel
theorem dX12_works_15 : decode cX12_works 15 = .ok (.iconst 1, 1) := by decide +kernel
theorem dX12_works_16 : decode cX12_works 16 = .ok (.isub, 1) := by decide +kernel
theorem dX12_works_17 : decode cX12_works 17 = .ok (.iaload, 1) := by decide +kernel
theorem dX12_works_18 : decode cX12_works 18 = .ok (.invokestatic 207, 3) := by decide +kernel
theorem dX12_works_21 : decode cX12_works 21 = .ok (.iload_n 1, 1) := by decide +kernel
theorem dX12_works_22 : decode cX12_works 22 = .ok (.if_icmp .lt 159, 3) := by decide +kernel
theorem dX12_works_25 : decode cX12_works 25 = .ok (.aload_n 0, 1) := by decide +kernel
theorem dX12_works_26 : decode cX12_works 26 = .ok (.dup, 1) := by decide +kernel
theorem dX12_works_27 : decode cX12_works 27 = .ok (.getfield 201, 3) := by decide +kernel
theorem dX12_works_30 : decode cX12_works 30 = .ok (.iconst 1, 1) := by decide +kernel
theorem dX12_works_31 : decode cX12_works 31 = .ok (.isub, 1) := by decide +kernel
theorem dX12_works_32 : decode cX12_works 32 = .ok (.putfield 201, 3) := by decide +kernel
theorem dX12_works_35 : decode cX12_works 35 = .ok (.aload_n 0, 1) := by decide +kernel
theorem dX12_works_36 : decode cX12_works 36 = .ok (.getfield 47, 3) := by decide +kernel
theorem dX12_works_39 : decode cX12_works 39 = .ok (.aload_n 0, 1) := by decide +kernel
theorem dX12_works_40 : decode cX12_works 40 = .ok (.getfield 201, 3) := by decide +kernel
theorem dX12_works_43 : decode cX12_works 43 = .ok (.iaload, 1) := by decide +kernel
theorem dX12_works_44 : decode cX12_works 44 = .ok (.istore_n 2, 1) := by decide +kernel
theorem dX12_works_45 : decode cX12_works 45 = .ok (.iload_n 2, 1) := by decide +kernel
theorem dX12_works_46 : decode cX12_works 46 = .ok (.bipush 33, 2) := by decide +kernel
theorem dX12_works_48 : decode cX12_works 48 = .ok (.if_icmp .ne 30, 3) := by decide +kernel
theorem dX12_works_51 : decode cX12_works 51 = .ok (.aload_n 0, 1) := by decide +kernel
theorem dX12_works_52 : decode cX12_works 52 = .ok (.getfield 50, 3) := by decide +kernel
theorem dX12_works_55 : decode cX12_works 55 = .ok (.aload_n 0, 1) := by decide +kernel
theorem dX12_works_56 : decode cX12_works 56 = .ok (.getfield 198, 3) := by decide +kernel
theorem dX12_works_59 : decode cX12_works 59 = .ok (.iconst 1, 1) := by decide +kernel
theorem dX12_works_60 : decode cX12_works 60 = .ok (.isub, 1) := by decide +kernel
theorem dX12_works_61 : decode cX12_works 61 = .ok (.iconst 1, 1) := by decide +kernel
theorem dX12_works_62 : decode cX12_works 62 = .ok (.aload_n 0, 1) := by decide +kernel
theorem dX12_works_63 : decode cX12_works 63 = .ok (.getfield 50, 3) := by decide +kernel
theorem dX12_works_66 : decode cX12_works 66 = .ok (.aload_n 0, 1) := by decide +kernel
theorem dX12_works_67 : decode cX12_works 67 = .ok (.getfield 198, 3) := by decide +kernel
theorem dX12_works_70 : decode cX12_works 70 = .ok (.iconst 1, 1) := by decide +kernel
theorem dX12_works_71 : decode cX12_works 71 = .ok (.isub, 1) := by decide +kernel
theorem dX12_works_72 : decode cX12_works 72 = .ok (.iaload, 1) := by decide +kernel
theorem dX12_works_73 : decode cX12_works 73 = .ok (.isub, 1) := by decide +kernel
theorem dX12_works_74 : decode cX12_works 74 = .ok (.iastore, 1) := by decide +kernel
theorem dX12_works_75 : decode cX12_works 75 = .ok (.goto (-75), 3) := by decide +kernel
theorem dX12_works_78 : decode cX12_works 78 = .ok (.aload_n 0, 1) := by decide +kernel
theorem dX12_works_79 : decode cX12_works 79 = .ok (.dup, 1) := by decide +kernel
theorem dX12_works_80 : decode cX12_works 80 = .ok (.getfield 198, 3) := by decide +kernel
theorem dX12_works_83 : decode cX12_works 83 = .ok (.iconst 1, 1) := by decide +kernel
theorem dX12_works_84 : decode cX12_works 84 = .ok (.isub, 1) := by decide +kernel
theorem dX12_works_85 : decode cX12_works 85 = .ok (.putfield 198, 3) := by decide +kernel
theorem dX12_works_88 : decode cX12_works 88 = .ok (.aload_n 0, 1) := by decide +kernel
theorem dX12_works_89 : decode cX12_works 89 = .ok (.getfield 50, 3) := by decide +kernel
theorem dX12_works_92 : decode cX12_works 92 = .ok (.aload_n 0, 1) := by decide +kernel
theorem dX12_works_93 : decode cX12_works 93 = .ok (.getfield 198, 3) := by decide +kernel
theorem dX12_works_96 : decode cX12_works 96 = .ok (.iconst 1, 1) := by decide +kernel
theorem dX12_works_97 : decode cX12_works 97 = .ok (.isub, 1) := by decide +kernel
theorem dX12_works_98 : decode cX12_works 98 = .ok (.iaload, 1) := by decide +kernel
theorem dX12_works_99 : decode cX12_works 99 = .ok (.istore_n 3, 1) := by decide +kernel
theorem dX12_works_100 : decode cX12_works 100 = .ok (.aload_n 0, 1) := by decide +kernel
theorem dX12_works_101 : decode cX12_works 101 = .ok (.getfield 50, 3) := by decide +kernel
theorem dX12_works_104 : decode cX12_works 104 = .ok (.aload_n 0, 1) := by decide +kernel
theorem dX12_works_105 : decode cX12_works 105 = .ok (.getfield 198, 3) := by decide +kernel
theorem dX12_works_108 : decode cX12_works 108 = .ok (.iaload, 1) := by decide +kernel
theorem dX12_works_109 : decode cX12_works 109 = .ok (.istore 4, 2) := by decide +kernel
theorem dX12_works_111 : decode cX12_works 111 = .ok (.aload_n 0, 1) := by decide +kernel
theorem dX12_works_112 : decode cX12_works 112 = .ok (.getfield 50, 3) := by decide +kernel
theorem dX12_works_115 : decode cX12_works 115 = .ok (.aload_n 0, 1) := by decide +kernel
theorem dX12_works_116 : decode cX12_works 116 = .ok (.getfield 198, 3) := by decide +kernel
theorem dX12_works_119 : decode cX12_works 119 = .ok (.iconst 1, 1) := by decide +kernel
theorem dX12_works_120 : decode cX12_works 120 = .ok (.isub, 1) := by decide +kernel
theorem dX12_works_121 : decode cX12_works 121 = .ok (.iload_n 2, 1) := by decide +kernel
theorem dX12_works_122 : decode cX12_works 122 = .ok (.bipush 124, 2) := by decide +kernel
theorem dX12_works_124 : decode cX12_works 124 = .ok (.if_icmp .ne 10, 3) := by decide +kernel
theorem dX12_works_127 : decode cX12_works 127 = .ok (.iload_n 3, 1) := by decide +kernel
theorem dX12_works_128 : decode cX12_works 128 = .ok (.iload 4, 2) := by decide +kernel
theorem dX12_works_130 : decode cX12_works 130 = .ok (.ior, 1) := by decide +kernel
theorem dX12_works_131 : decode cX12_works 131 = .ok (.goto 46, 3) := by decide +kernel
theorem dX12_works_134 : decode cX12_works 134 = .ok (.iload_n 2, 1) := by decide +kernel
theorem dX12_works_135 : decode cX12_works 135 = .ok (.bipush 38, 2) := by decide +kernel
theorem dX12_works_137 : decode cX12_works 137 = .ok (.if_icmp .ne 10, 3) := by decide +kernel
theorem dX12_works_140 : decode cX12_works 140 = .ok (.iload_n 3, 1) := by decide +kernel
theorem dX12_works_141 : decode cX12_works 141 = .ok (.iload 4, 2) := by decide +kernel
theorem dX12_works_143 : decode cX12_works 143 = .ok (.iand, 1) := by decide +kernel
theorem dX12_works_144 : decode cX12_works 144 = .ok (.goto 33, 3) := by decide +kernel
theorem dX12_works_147 : decode cX12_works 147 = .ok (.iload_n 2, 1) := by decide +kernel
theorem dX12_works_148 : decode cX12_works 148 = .ok (.bipush 42, 2) := by decide +kernel
theorem dX12_works_150 : decode cX12_works 150 = .ok (.if_icmp .ne 10, 3) := by decide +kernel
theorem dX12_works_153 : decode cX12_works 153 = .ok (.iload_n 3, 1) := by decide +kernel
theorem dX12_works_154 : decode cX12_works 154 = .ok (.iload 4, 2) := by decide +kernel
theorem dX12_works_156 : decode cX12_works 156 = .ok (.imul, 1) := by decide +kernel
theorem dX12_works_157 : decode cX12_works 157 = .ok (.goto 20, 3) := by decide +kernel
theorem dX12_works_160 : decode cX12_works 160 = .ok (.iload_n 2, 1) := by decide +kernel
theorem dX12_works_161 : decode cX12_works 161 = .ok (.bipush 43, 2) := by decide +kernel
theorem dX12_works_163 : decode cX12_works 163 = .ok (.if_icmp .ne 10, 3) := by decide +kernel
theorem dX12_works_166 : decode cX12_works 166 = .ok (.iload_n 3, 1) := by decide +kernel
theorem dX12_works_167 : decode cX12_works 167 = .ok (.iload 4, 2) := by decide +kernel
theorem dX12_works_169 : decode cX12_works 169 = .ok (.iadd, 1) := by decide +kernel
theorem dX12_works_170 : decode cX12_works 170 = .ok (.goto 7, 3) := by decide +kernel
theorem dX12_works_173 : decode cX12_works 173 = .ok (.iload_n 3, 1) := by decide +kernel
theorem dX12_works_174 : decode cX12_works 174 = .ok (.iload 4, 2) := by decide +kernel
theorem dX12_works_176 : decode cX12_works 176 = .ok (.isub, 1) := by decide +kernel
theorem dX12_works_177 : decode cX12_works 177 = .ok (.iastore, 1) := by decide +kernel
theorem dX12_works_178 : decode cX12_works 178 = .ok (.goto (-178), 3) := by decide +kernel
theorem dX12_works_181 : decode cX12_works 181 = .ok (.return_, 1) := by decide +kernel
theorem dX12_compared_0 : decode cX12_compared 0 = .ok (.aload_n 0, 1) := by decide +kernel
theorem dX12_compared_1 : decode cX12_compared 1 = .ok (.iload_n 1, 1) := by decide +kernel
theorem dX12_compared_2 : decode cX12_compared 2 = .ok (.invokevirtual 210, 3) := by decide +kernel
theorem dX12_compared_5 : decode cX12_compared 5 = .ok (.istore_n 3, 1) := by decide +kernel
theorem dX12_compared_6 : decode cX12_compared 6 = .ok (.aload_n 0, 1) := by decide +kernel
theorem dX12_compared_7 : decode cX12_compared 7 = .ok (.dup, 1) := by decide +kernel
theorem dX12_compared_8 : decode cX12_compared 8 = .ok (.getfield 204, 3) := by decide +kernel
theorem dX12_compared_11 : decode cX12_compared 11 = .ok (.iconst 1, 1) := by decide +kernel
theorem dX12_compared_12 : decode cX12_compared 12 = .ok (.iadd, 1) := by decide +kernel
theorem dX12_compared_13 : decode cX12_compared 13 = .ok (.putfield 204, 3) := by decide +kernel
theorem dX12_compared_16 : decode cX12_compared 16 = .ok (.iload_n 3, 1) := by decide +kernel
theorem dX12_compared_17 : decode cX12_compared 17 = .ok (.bipush 98, 2) := by decide +kernel
theorem dX12_compared_19 : decode cX12_compared 19 = .ok (.if_icmp .ne 40, 3) := by decide +kernel
theorem dX12_compared_22 : decode cX12_compared 22 = .ok (.aload_n 0, 1) := by decide +kernel
theorem dX12_compared_23 : decode cX12_compared 23 = .ok (.iload_n 1, 1) := by decide +kernel
theorem dX12_compared_24 : decode cX12_compared 24 = .ok (.invokevirtual 210, 3) := by decide +kernel
theorem dX12_compared_27 : decode cX12_compared 27 = .ok (.bipush 48, 2) := by decide +kernel
theorem dX12_compared_29 : decode cX12_compared 29 = .ok (.isub, 1) := by decide +kernel
theorem dX12_compared_30 : decode cX12_compared 30 = .ok (.istore 4, 2) := by decide +kernel
theorem dX12_compared_32 : decode cX12_compared 32 = .ok (.aload_n 0, 1) := by decide +kernel
theorem dX12_compared_33 : decode cX12_compared 33 = .ok (.dup, 1) := by decide +kernel
theorem dX12_compared_34 : decode cX12_compared 34 = .ok (.getfield 204, 3) := by decide +kernel
theorem dX12_compared_37 : decode cX12_compared 37 = .ok (.iconst 1, 1) := by decide +kernel
theorem dX12_compared_38 : decode cX12_compared 38 = .ok (.iadd, 1) := by decide +kernel
theorem dX12_compared_39 : decode cX12_compared 39 = .ok (.putfield 204, 3) := by decide +kernel
theorem dX12_compared_42 : decode cX12_compared 42 = .ok (.iload 4, 2) := by decide +kernel
theorem dX12_compared_44 : decode cX12_compared 44 = .ok (.iconst 4, 1) := by decide +kernel
theorem dX12_compared_45 : decode cX12_compared 45 = .ok (.if_icmp .ge 12, 3) := by decide +kernel
theorem dX12_compared_48 : decode cX12_compared 48 = .ok (.iload_n 2, 1) := by decide +kernel
theorem dX12_compared_49 : decode cX12_compared 49 = .ok (.iload 4, 2) := by decide +kernel
theorem dX12_compared_51 : decode cX12_compared 51 = .ok (.ishr, 1) := by decide +kernel
theorem dX12_compared_52 : decode cX12_compared 52 = .ok (.iconst 1, 1) := by decide +kernel
theorem dX12_compared_53 : decode cX12_compared 53 = .ok (.iand, 1) := by decide +kernel
theorem dX12_compared_54 : decode cX12_compared 54 = .ok (.goto 4, 3) := by decide +kernel
theorem dX12_compared_57 : decode cX12_compared 57 = .ok (.iconst 0, 1) := by decide +kernel
theorem dX12_compared_58 : decode cX12_compared 58 = .ok (.ireturn, 1) := by decide +kernel
theorem dX12_compared_59 : decode cX12_compared 59 = .ok (.aload_n 0, 1) := by decide +kernel
theorem dX12_compared_60 : decode cX12_compared 60 = .ok (.iload_n 1, 1) := by decide +kernel
theorem dX12_compared_61 : decode cX12_compared 61 = .ok (.invokevirtual 210, 3) := by decide +kernel
theorem dX12_compared_64 : decode cX12_compared 64 = .ok (.istore 4, 2) := by decide +kernel
theorem dX12_compared_66 : decode cX12_compared 66 = .ok (.aload_n 0, 1) := by decide +kernel
theorem dX12_compared_67 : decode cX12_compared 67 = .ok (.getfield 25, 3) := by decide +kernel
theorem dX12_compared_70 : decode cX12_compared 70 = .ok (.bipush 40, 2) := by decide +kernel
theorem dX12_compared_72 : decode cX12_compared 72 = .ok (.iload_n 1, 1) := by decide +kernel
theorem dX12_compared_73 : decode cX12_compared 73 = .ok (.imul, 1) := by decide +kernel
theorem dX12_compared_74 : decode cX12_compared 74 = .ok (.aload_n 0, 1) := by decide +kernel
theorem dX12_compared_75 : decode cX12_compared 75 = .ok (.getfield 204, 3) := by decide +kernel
theorem dX12_compared_78 : decode cX12_compared 78 = .ok (.iadd, 1) := by decide +kernel
theorem dX12_compared_79 : decode cX12_compared 79 = .ok (.iconst 1, 1) := by decide +kernel
theorem dX12_compared_80 : decode cX12_compared 80 = .ok (.iadd, 1) := by decide +kernel
theorem dX12_compared_81 : decode cX12_compared 81 = .ok (.iaload, 1) := by decide +kernel
theorem dX12_compared_82 : decode cX12_compared 82 = .ok (.bipush 48, 2) := by decide +kernel
theorem dX12_compared_84 : decode cX12_compared 84 = .ok (.isub, 1) := by decide +kernel
theorem dX12_compared_85 : decode cX12_compared 85 = .ok (.istore 5, 2) := by decide +kernel
theorem dX12_compared_87 : decode cX12_compared 87 = .ok (.aload_n 0, 1) := by decide +kernel
theorem dX12_compared_88 : decode cX12_compared 88 = .ok (.dup, 1) := by decide +kernel
theorem dX12_compared_89 : decode cX12_compared 89 = .ok (.getfield 204, 3) := by decide +kernel
theorem dX12_compared_92 : decode cX12_compared 92 = .ok (.iconst 2, 1) := by decide +kernel
theorem dX12_compared_93 : decode cX12_compared 93 = .ok (.iadd, 1) := by decide +kernel
theorem dX12_compared_94 : decode cX12_compared 94 = .ok (.putfield 204, 3) := by decide +kernel
theorem dX12_compared_97 : decode cX12_compared 97 = .ok (.iload_n 2, 1) := by decide +kernel
theorem dX12_compared_98 : decode cX12_compared 98 = .ok (.invokestatic 213, 3) := by decide +kernel
theorem dX12_compared_101 : decode cX12_compared 101 = .ok (.istore 6, 2) := by decide +kernel
theorem dX12_compared_103 : decode cX12_compared 103 = .ok (.iload 4, 2) := by decide +kernel
theorem dX12_compared_105 : decode cX12_compared 105 = .ok (.bipush 60, 2) := by decide +kernel
theorem dX12_compared_107 : decode cX12_compared 107 = .ok (.if_icmp .ne 13, 3) := by decide +kernel
theorem dX12_compared_110 : decode cX12_compared 110 = .ok (.iload 6, 2) := by decide +kernel
theorem dX12_compared_112 : decode cX12_compared 112 = .ok (.iload 5, 2) := by decide +kernel
theorem dX12_compared_114 : decode cX12_compared 114 = .ok (.if_icmp .ge 34, 3) := by decide +kernel
theorem dX12_compared_117 : decode cX12_compared 117 = .ok (.goto 27, 3) := by decide +kernel
theorem dX12_compared_120 : decode cX12_compared 120 = .ok (.iload 4, 2) := by decide +kernel
theorem dX12_compared_122 : decode cX12_compared 122 = .ok (.bipush 62, 2) := by decide +kernel
theorem dX12_compared_124 : decode cX12_compared 124 = .ok (.if_icmp .ne 13, 3) := by decide +kernel
theorem dX12_compared_127 : decode cX12_compared 127 = .ok (.iload 6, 2) := by decide +kernel
theorem dX12_compared_129 : decode cX12_compared 129 = .ok (.iload 5, 2) := by decide +kernel
theorem dX12_compared_131 : decode cX12_compared 131 = .ok (.if_icmp .le 17, 3) := by decide +kernel
theorem dX12_compared_134 : decode cX12_compared 134 = .ok (.goto 10, 3) := by decide +kernel
theorem dX12_compared_137 : decode cX12_compared 137 = .ok (.iload 6, 2) := by decide +kernel
theorem dX12_compared_139 : decode cX12_compared 139 = .ok (.iload 5, 2) := by decide +kernel
theorem dX12_compared_141 : decode cX12_compared 141 = .ok (.if_icmp .ne 7, 3) := by decide +kernel
theorem dX12_compared_144 : decode cX12_compared 144 = .ok (.iconst 1, 1) := by decide +kernel
theorem dX12_compared_145 : decode cX12_compared 145 = .ok (.goto 4, 3) := by decide +kernel
theorem dX12_compared_148 : decode cX12_compared 148 = .ok (.iconst 0, 1) := by decide +kernel
theorem dX12_compared_149 : decode cX12_compared 149 = .ok (.ireturn, 1) := by decide +kernel
theorem dX12_letsBy_0 : decode cX12_letsBy 0 = .ok (.aload_n 0, 1) := by decide +kernel
theorem dX12_letsBy_1 : decode cX12_letsBy 1 = .ok (.iconst 0, 1) := by decide +kernel
theorem dX12_letsBy_2 : decode cX12_letsBy 2 = .ok (.putfield 204, 3) := by decide +kernel
theorem dX12_letsBy_5 : decode cX12_letsBy 5 = .ok (.aload_n 0, 1) := by decide +kernel
theorem dX12_letsBy_6 : decode cX12_letsBy 6 = .ok (.iconst 0, 1) := by decide +kernel
theorem dX12_letsBy_7 : decode cX12_letsBy 7 = .ok (.putfield 201, 3) := by decide +kernel
theorem dX12_letsBy_10 : decode cX12_letsBy 10 = .ok (.aload_n 0, 1) := by decide +kernel
theorem dX12_letsBy_11 : decode cX12_letsBy 11 = .ok (.iconst 0, 1) := by decide +kernel
theorem dX12_letsBy_12 : decode cX12_letsBy 12 = .ok (.putfield 198, 3) := by decide +kernel
theorem dX12_letsBy_15 : decode cX12_letsBy 15 = .ok (.aload_n 0, 1) := by decide +kernel
theorem dX12_letsBy_16 : decode cX12_letsBy 16 = .ok (.getfield 204, 3) := by decide +kernel
theorem dX12_letsBy_19 : decode cX12_letsBy 19 = .ok (.aload_n 0, 1) := by decide +kernel
theorem dX12_letsBy_20 : decode cX12_letsBy 20 = .ok (.getfield 28, 3) := by decide +kernel
theorem dX12_letsBy_23 : decode cX12_letsBy 23 = .ok (.iload_n 1, 1) := by decide +kernel
theorem dX12_letsBy_24 : decode cX12_letsBy 24 = .ok (.iaload, 1) := by decide +kernel
theorem dX12_letsBy_25 : decode cX12_letsBy 25 = .ok (.if_icmp .ge 106, 3) := by decide +kernel
theorem dX12_letsBy_28 : decode cX12_letsBy 28 = .ok (.aload_n 0, 1) := by decide +kernel
theorem dX12_letsBy_29 : decode cX12_letsBy 29 = .ok (.iload_n 1, 1) := by decide +kernel
theorem dX12_letsBy_30 : decode cX12_letsBy 30 = .ok (.invokevirtual 210, 3) := by decide +kernel
theorem dX12_letsBy_33 : decode cX12_letsBy 33 = .ok (.istore_n 3, 1) := by decide +kernel
theorem dX12_letsBy_34 : decode cX12_letsBy 34 = .ok (.iload_n 3, 1) := by decide +kernel
theorem dX12_letsBy_35 : decode cX12_letsBy 35 = .ok (.bipush 98, 2) := by decide +kernel
theorem dX12_letsBy_37 : decode cX12_letsBy 37 = .ok (.if_icmp .eq 9, 3) := by decide +kernel
theorem dX12_letsBy_40 : decode cX12_letsBy 40 = .ok (.iload_n 3, 1) := by decide +kernel
theorem dX12_letsBy_41 : decode cX12_letsBy 41 = .ok (.bipush 110, 2) := by decide +kernel
theorem dX12_letsBy_43 : decode cX12_letsBy 43 = .ok (.if_icmp .ne 21, 3) := by decide +kernel
theorem dX12_letsBy_46 : decode cX12_letsBy 46 = .ok (.aload_n 0, 1) := by decide +kernel
theorem dX12_letsBy_47 : decode cX12_letsBy 47 = .ok (.aload_n 0, 1) := by decide +kernel
theorem dX12_letsBy_48 : decode cX12_letsBy 48 = .ok (.iload_n 1, 1) := by decide +kernel
theorem dX12_letsBy_49 : decode cX12_letsBy 49 = .ok (.iload_n 2, 1) := by decide +kernel
theorem dX12_letsBy_50 : decode cX12_letsBy 50 = .ok (.invokevirtual 216, 3) := by decide +kernel
theorem dX12_letsBy_53 : decode cX12_letsBy 53 = .ok (.invokevirtual 219, 3) := by decide +kernel
theorem dX12_letsBy_56 : decode cX12_letsBy 56 = .ok (.aload_n 0, 1) := by decide +kernel
theorem dX12_letsBy_57 : decode cX12_letsBy 57 = .ok (.iconst 3, 1) := by decide +kernel
theorem dX12_letsBy_58 : decode cX12_letsBy 58 = .ok (.invokevirtual 223, 3) := by decide +kernel
theorem dX12_letsBy_61 : decode cX12_letsBy 61 = .ok (.goto (-46), 3) := by decide +kernel
theorem dX12_letsBy_64 : decode cX12_letsBy 64 = .ok (.aload_n 0, 1) := by decide +kernel
theorem dX12_letsBy_65 : decode cX12_letsBy 65 = .ok (.dup, 1) := by decide +kernel
theorem dX12_letsBy_66 : decode cX12_letsBy 66 = .ok (.getfield 204, 3) := by decide +kernel
theorem dX12_letsBy_69 : decode cX12_letsBy 69 = .ok (.iconst 1, 1) := by decide +kernel
theorem dX12_letsBy_70 : decode cX12_letsBy 70 = .ok (.iadd, 1) := by decide +kernel
theorem dX12_letsBy_71 : decode cX12_letsBy 71 = .ok (.putfield 204, 3) := by decide +kernel
theorem dX12_letsBy_74 : decode cX12_letsBy 74 = .ok (.iload_n 3, 1) := by decide +kernel
theorem dX12_letsBy_75 : decode cX12_letsBy 75 = .ok (.bipush 41, 2) := by decide +kernel
theorem dX12_letsBy_77 : decode cX12_letsBy 77 = .ok (.if_icmp .ne 26, 3) := by decide +kernel
theorem dX12_letsBy_80 : decode cX12_letsBy 80 = .ok (.aload_n 0, 1) := by decide +kernel
theorem dX12_letsBy_81 : decode cX12_letsBy 81 = .ok (.iconst 1, 1) := by decide +kernel
theorem dX12_letsBy_82 : decode cX12_letsBy 82 = .ok (.invokevirtual 223, 3) := by decide +kernel
theorem dX12_letsBy_85 : decode cX12_letsBy 85 = .ok (.aload_n 0, 1) := by decide +kernel
theorem dX12_letsBy_86 : decode cX12_letsBy 86 = .ok (.dup, 1) := by decide +kernel
theorem dX12_letsBy_87 : decode cX12_letsBy 87 = .ok (.getfield 201, 3) := by decide +kernel
theorem dX12_letsBy_90 : decode cX12_letsBy 90 = .ok (.iconst 1, 1) := by decide +kernel
theorem dX12_letsBy_91 : decode cX12_letsBy 91 = .ok (.isub, 1) := by decide +kernel
theorem dX12_letsBy_92 : decode cX12_letsBy 92 = .ok (.putfield 201, 3) := by decide +kernel
theorem dX12_letsBy_95 : decode cX12_letsBy 95 = .ok (.aload_n 0, 1) := by decide +kernel
theorem dX12_letsBy_96 : decode cX12_letsBy 96 = .ok (.iconst 3, 1) := by decide +kernel
theorem dX12_letsBy_97 : decode cX12_letsBy 97 = .ok (.invokevirtual 223, 3) := by decide +kernel
theorem dX12_letsBy_100 : decode cX12_letsBy 100 = .ok (.goto 28, 3) := by decide +kernel
theorem dX12_letsBy_103 : decode cX12_letsBy 103 = .ok (.iload_n 3, 1) := by decide +kernel
theorem dX12_letsBy_104 : decode cX12_letsBy 104 = .ok (.bipush 38, 2) := by decide +kernel
theorem dX12_letsBy_106 : decode cX12_letsBy 106 = .ok (.if_icmp .eq 9, 3) := by decide +kernel
theorem dX12_letsBy_109 : decode cX12_letsBy 109 = .ok (.iload_n 3, 1) := by decide +kernel
theorem dX12_letsBy_110 : decode cX12_letsBy 110 = .ok (.bipush 124, 2) := by decide +kernel
theorem dX12_letsBy_112 : decode cX12_letsBy 112 = .ok (.if_icmp .ne 11, 3) := by decide +kernel
theorem dX12_letsBy_115 : decode cX12_letsBy 115 = .ok (.aload_n 0, 1) := by decide +kernel
theorem dX12_letsBy_116 : decode cX12_letsBy 116 = .ok (.iload_n 3, 1) := by decide +kernel
theorem dX12_letsBy_117 : decode cX12_letsBy 117 = .ok (.invokestatic 207, 3) := by decide +kernel
theorem dX12_letsBy_120 : decode cX12_letsBy 120 = .ok (.invokevirtual 223, 3) := by decide +kernel
theorem dX12_letsBy_123 : decode cX12_letsBy 123 = .ok (.aload_n 0, 1) := by decide +kernel
theorem dX12_letsBy_124 : decode cX12_letsBy 124 = .ok (.iload_n 3, 1) := by decide +kernel
theorem dX12_letsBy_125 : decode cX12_letsBy 125 = .ok (.invokevirtual 226, 3) := by decide +kernel
theorem dX12_letsBy_128 : decode cX12_letsBy 128 = .ok (.goto (-113), 3) := by decide +kernel
theorem dX12_letsBy_131 : decode cX12_letsBy 131 = .ok (.aload_n 0, 1) := by decide +kernel
theorem dX12_letsBy_132 : decode cX12_letsBy 132 = .ok (.iconst 1, 1) := by decide +kernel
theorem dX12_letsBy_133 : decode cX12_letsBy 133 = .ok (.invokevirtual 223, 3) := by decide +kernel
theorem dX12_letsBy_136 : decode cX12_letsBy 136 = .ok (.aload_n 0, 1) := by decide +kernel
theorem dX12_letsBy_137 : decode cX12_letsBy 137 = .ok (.getfield 50, 3) := by decide +kernel
theorem dX12_letsBy_140 : decode cX12_letsBy 140 = .ok (.iconst 0, 1) := by decide +kernel
theorem dX12_letsBy_141 : decode cX12_letsBy 141 = .ok (.iaload, 1) := by decide +kernel
theorem dX12_letsBy_142 : decode cX12_letsBy 142 = .ok (.iconst 1, 1) := by decide +kernel
theorem dX12_letsBy_143 : decode cX12_letsBy 143 = .ok (.if_icmp .ne 7, 3) := by decide +kernel
theorem dX12_letsBy_146 : decode cX12_letsBy 146 = .ok (.iconst 1, 1) := by decide +kernel
theorem dX12_letsBy_147 : decode cX12_letsBy 147 = .ok (.goto 4, 3) := by decide +kernel
theorem dX12_letsBy_150 : decode cX12_letsBy 150 = .ok (.iconst 0, 1) := by decide +kernel
theorem dX12_letsBy_151 : decode cX12_letsBy 151 = .ok (.ireturn, 1) := by decide +kernel
theorem dX12_ruleWorth_0 : decode cX12_ruleWorth 0 = .ok (.aload_n 0, 1) := by decide +kernel
theorem dX12_ruleWorth_1 : decode cX12_ruleWorth 1 = .ok (.iconst 0, 1) := by decide +kernel
theorem dX12_ruleWorth_2 : decode cX12_ruleWorth 2 = .ok (.putfield 204, 3) := by decide +kernel
theorem dX12_ruleWorth_5 : decode cX12_ruleWorth 5 = .ok (.aload_n 0, 1) := by decide +kernel
theorem dX12_ruleWorth_6 : decode cX12_ruleWorth 6 = .ok (.iconst 0, 1) := by decide +kernel
theorem dX12_ruleWorth_7 : decode cX12_ruleWorth 7 = .ok (.putfield 201, 3) := by decide +kernel
theorem dX12_ruleWorth_10 : decode cX12_ruleWorth 10 = .ok (.aload_n 0, 1) := by decide +kernel
theorem dX12_ruleWorth_11 : decode cX12_ruleWorth 11 = .ok (.iconst 0, 1) := by decide +kernel
theorem dX12_ruleWorth_12 : decode cX12_ruleWorth 12 = .ok (.putfield 198, 3) := by decide +kernel
theorem dX12_ruleWorth_15 : decode cX12_ruleWorth 15 = .ok (.aload_n 0, 1) := by decide +kernel
theorem dX12_ruleWorth_16 : decode cX12_ruleWorth 16 = .ok (.getfield 204, 3) := by decide +kernel
theorem dX12_ruleWorth_19 : decode cX12_ruleWorth 19 = .ok (.aload_n 0, 1) := by decide +kernel
theorem dX12_ruleWorth_20 : decode cX12_ruleWorth 20 = .ok (.getfield 34, 3) := by decide +kernel
theorem dX12_ruleWorth_23 : decode cX12_ruleWorth 23 = .ok (.iload_n 1, 1) := by decide +kernel
theorem dX12_ruleWorth_24 : decode cX12_ruleWorth 24 = .ok (.iaload, 1) := by decide +kernel
theorem dX12_ruleWorth_25 : decode cX12_ruleWorth 25 = .ok (.if_icmp .ge 256, 3) := by decide +kernel
theorem dX12_ruleWorth_28 : decode cX12_ruleWorth 28 = .ok (.aload_n 0, 1) := by decide +kernel
theorem dX12_ruleWorth_29 : decode cX12_ruleWorth 29 = .ok (.getfield 31, 3) := by decide +kernel
theorem dX12_ruleWorth_32 : decode cX12_ruleWorth 32 = .ok (.bipush 40, 2) := by decide +kernel
theorem dX12_ruleWorth_34 : decode cX12_ruleWorth 34 = .ok (.iload_n 1, 1) := by decide +kernel
theorem dX12_ruleWorth_35 : decode cX12_ruleWorth 35 = .ok (.imul, 1) := by decide +kernel
theorem dX12_ruleWorth_36 : decode cX12_ruleWorth 36 = .ok (.aload_n 0, 1) := by decide +kernel
theorem dX12_ruleWorth_37 : decode cX12_ruleWorth 37 = .ok (.getfield 204, 3) := by decide +kernel
theorem dX12_ruleWorth_40 : decode cX12_ruleWorth 40 = .ok (.iadd, 1) := by decide +kernel
theorem dX12_ruleWorth_41 : decode cX12_ruleWorth 41 = .ok (.iaload, 1) := by decide +kernel
theorem dX12_ruleWorth_42 : decode cX12_ruleWorth 42 = .ok (.istore 4, 2) := by decide +kernel
theorem dX12_ruleWorth_44 : decode cX12_ruleWorth 44 = .ok (.aload_n 0, 1) := by decide +kernel
theorem dX12_ruleWorth_45 : decode cX12_ruleWorth 45 = .ok (.dup, 1) := by decide +kernel
theorem dX12_ruleWorth_46 : decode cX12_ruleWorth 46 = .ok (.getfield 204, 3) := by decide +kernel
theorem dX12_ruleWorth_49 : decode cX12_ruleWorth 49 = .ok (.iconst 1, 1) := by decide +kernel
theorem dX12_ruleWorth_50 : decode cX12_ruleWorth 50 = .ok (.iadd, 1) := by decide +kernel
theorem dX12_ruleWorth_51 : decode cX12_ruleWorth 51 = .ok (.putfield 204, 3) := by decide +kernel
theorem dX12_ruleWorth_54 : decode cX12_ruleWorth 54 = .ok (.iload 4, 2) := by decide +kernel
theorem dX12_ruleWorth_56 : decode cX12_ruleWorth 56 = .ok (.bipush 120, 2) := by decide +kernel
theorem dX12_ruleWorth_58 : decode cX12_ruleWorth 58 = .ok (.if_icmp .eq 10, 3) := by decide +kernel
theorem dX12_ruleWorth_61 : decode cX12_ruleWorth 61 = .ok (.iload 4, 2) := by decide +kernel
theorem dX12_ruleWorth_63 : decode cX12_ruleWorth 63 = .ok (.bipush 115, 2) := by decide +kernel
theorem dX12_ruleWorth_65 : decode cX12_ruleWorth 65 = .ok (.if_icmp .ne 71, 3) := by decide +kernel
theorem dX12_ruleWorth_68 : decode cX12_ruleWorth 68 = .ok (.aload_n 0, 1) := by decide +kernel
theorem dX12_ruleWorth_69 : decode cX12_ruleWorth 69 = .ok (.getfield 31, 3) := by decide +kernel
theorem dX12_ruleWorth_72 : decode cX12_ruleWorth 72 = .ok (.bipush 40, 2) := by decide +kernel
theorem dX12_ruleWorth_74 : decode cX12_ruleWorth 74 = .ok (.iload_n 1, 1) := by decide +kernel
theorem dX12_ruleWorth_75 : decode cX12_ruleWorth 75 = .ok (.imul, 1) := by decide +kernel
theorem dX12_ruleWorth_76 : decode cX12_ruleWorth 76 = .ok (.aload_n 0, 1) := by decide +kernel
theorem dX12_ruleWorth_77 : decode cX12_ruleWorth 77 = .ok (.getfield 204, 3) := by decide +kernel
theorem dX12_ruleWorth_80 : decode cX12_ruleWorth 80 = .ok (.iadd, 1) := by decide +kernel
theorem dX12_ruleWorth_81 : decode cX12_ruleWorth 81 = .ok (.iaload, 1) := by decide +kernel
theorem dX12_ruleWorth_82 : decode cX12_ruleWorth 82 = .ok (.bipush 48, 2) := by decide +kernel
theorem dX12_ruleWorth_84 : decode cX12_ruleWorth 84 = .ok (.isub, 1) := by decide +kernel
theorem dX12_ruleWorth_85 : decode cX12_ruleWorth 85 = .ok (.istore 5, 2) := by decide +kernel
theorem dX12_ruleWorth_87 : decode cX12_ruleWorth 87 = .ok (.aload_n 0, 1) := by decide +kernel
theorem dX12_ruleWorth_88 : decode cX12_ruleWorth 88 = .ok (.dup, 1) := by decide +kernel
theorem dX12_ruleWorth_89 : decode cX12_ruleWorth 89 = .ok (.getfield 204, 3) := by decide +kernel
theorem dX12_ruleWorth_92 : decode cX12_ruleWorth 92 = .ok (.iconst 1, 1) := by decide +kernel
theorem dX12_ruleWorth_93 : decode cX12_ruleWorth 93 = .ok (.iadd, 1) := by decide +kernel
theorem dX12_ruleWorth_94 : decode cX12_ruleWorth 94 = .ok (.putfield 204, 3) := by decide +kernel
theorem dX12_ruleWorth_97 : decode cX12_ruleWorth 97 = .ok (.aload_n 0, 1) := by decide +kernel
theorem dX12_ruleWorth_98 : decode cX12_ruleWorth 98 = .ok (.iload 5, 2) := by decide +kernel
theorem dX12_ruleWorth_100 : decode cX12_ruleWorth 100 = .ok (.iconst 3, 1) := by decide +kernel
theorem dX12_ruleWorth_101 : decode cX12_ruleWorth 101 = .ok (.if_icmp .le 7, 3) := by decide +kernel
theorem dX12_ruleWorth_104 : decode cX12_ruleWorth 104 = .ok (.iconst 0, 1) := by decide +kernel
theorem dX12_ruleWorth_105 : decode cX12_ruleWorth 105 = .ok (.goto 25, 3) := by decide +kernel
theorem dX12_ruleWorth_108 : decode cX12_ruleWorth 108 = .ok (.iload 4, 2) := by decide +kernel
theorem dX12_ruleWorth_110 : decode cX12_ruleWorth 110 = .ok (.bipush 120, 2) := by decide +kernel
theorem dX12_ruleWorth_112 : decode cX12_ruleWorth 112 = .ok (.if_icmp .ne 12, 3) := by decide +kernel
theorem dX12_ruleWorth_115 : decode cX12_ruleWorth 115 = .ok (.iload_n 2, 1) := by decide +kernel
theorem dX12_ruleWorth_116 : decode cX12_ruleWorth 116 = .ok (.iload 5, 2) := by decide +kernel
theorem dX12_ruleWorth_118 : decode cX12_ruleWorth 118 = .ok (.invokestatic 155, 3) := by decide +kernel
theorem dX12_ruleWorth_121 : decode cX12_ruleWorth 121 = .ok (.goto 9, 3) := by decide +kernel
theorem dX12_ruleWorth_124 : decode cX12_ruleWorth 124 = .ok (.iload_n 3, 1) := by decide +kernel
theorem dX12_ruleWorth_125 : decode cX12_ruleWorth 125 = .ok (.iload 5, 2) := by decide +kernel
theorem dX12_ruleWorth_127 : decode cX12_ruleWorth 127 = .ok (.ishr, 1) := by decide +kernel
theorem dX12_ruleWorth_128 : decode cX12_ruleWorth 128 = .ok (.iconst 1, 1) := by decide +kernel
theorem dX12_ruleWorth_129 : decode cX12_ruleWorth 129 = .ok (.iand, 1) := by decide +kernel
theorem dX12_ruleWorth_130 : decode cX12_ruleWorth 130 = .ok (.invokevirtual 219, 3) := by decide +kernel
theorem dX12_ruleWorth_133 : decode cX12_ruleWorth 133 = .ok (.goto 145, 3) := by decide +kernel
theorem dX12_ruleWorth_136 : decode cX12_ruleWorth 136 = .ok (.iload 4, 2) := by decide +kernel
theorem dX12_ruleWorth_138 : decode cX12_ruleWorth 138 = .ok (.invokestatic 170, 3) := by decide +kernel
theorem dX12_ruleWorth_141 : decode cX12_ruleWorth 141 = .ok (.ifCond .eq 90, 3) := by decide +kernel
theorem dX12_ruleWorth_144 : decode cX12_ruleWorth 144 = .ok (.iload 4, 2) := by decide +kernel
theorem dX12_ruleWorth_146 : decode cX12_ruleWorth 146 = .ok (.bipush 48, 2) := by decide +kernel
theorem dX12_ruleWorth_148 : decode cX12_ruleWorth 148 = .ok (.isub, 1) := by decide +kernel
theorem dX12_ruleWorth_149 : decode cX12_ruleWorth 149 = .ok (.istore 5, 2) := by decide +kernel
theorem dX12_ruleWorth_151 : decode cX12_ruleWorth 151 = .ok (.aload_n 0, 1) := by decide +kernel
theorem dX12_ruleWorth_152 : decode cX12_ruleWorth 152 = .ok (.getfield 204, 3) := by decide +kernel
theorem dX12_ruleWorth_155 : decode cX12_ruleWorth 155 = .ok (.aload_n 0, 1) := by decide +kernel
theorem dX12_ruleWorth_156 : decode cX12_ruleWorth 156 = .ok (.getfield 34, 3) := by decide +kernel
theorem dX12_ruleWorth_159 : decode cX12_ruleWorth 159 = .ok (.iload_n 1, 1) := by decide +kernel
theorem dX12_ruleWorth_160 : decode cX12_ruleWorth 160 = .ok (.iaload, 1) := by decide +kernel
theorem dX12_ruleWorth_161 : decode cX12_ruleWorth 161 = .ok (.if_icmp .ge 61, 3) := by decide +kernel
theorem dX12_ruleWorth_164 : decode cX12_ruleWorth 164 = .ok (.aload_n 0, 1) := by decide +kernel
theorem dX12_ruleWorth_165 : decode cX12_ruleWorth 165 = .ok (.getfield 31, 3) := by decide +kernel
theorem dX12_ruleWorth_168 : decode cX12_ruleWorth 168 = .ok (.bipush 40, 2) := by decide +kernel
theorem dX12_ruleWorth_170 : decode cX12_ruleWorth 170 = .ok (.iload_n 1, 1) := by decide +kernel
theorem dX12_ruleWorth_171 : decode cX12_ruleWorth 171 = .ok (.imul, 1) := by decide +kernel
theorem dX12_ruleWorth_172 : decode cX12_ruleWorth 172 = .ok (.aload_n 0, 1) := by decide +kernel
theorem dX12_ruleWorth_173 : decode cX12_ruleWorth 173 = .ok (.getfield 204, 3) := by decide +kernel
theorem dX12_ruleWorth_176 : decode cX12_ruleWorth 176 = .ok (.iadd, 1) := by decide +kernel
theorem dX12_ruleWorth_177 : decode cX12_ruleWorth 177 = .ok (.iaload, 1) := by decide +kernel
theorem dX12_ruleWorth_178 : decode cX12_ruleWorth 178 = .ok (.invokestatic 170, 3) := by decide +kernel
theorem dX12_ruleWorth_181 : decode cX12_ruleWorth 181 = .ok (.ifCond .eq 41, 3) := by decide +kernel
theorem dX12_ruleWorth_184 : decode cX12_ruleWorth 184 = .ok (.bipush 10, 2) := by decide +kernel
theorem dX12_ruleWorth_186 : decode cX12_ruleWorth 186 = .ok (.iload 5, 2) := by decide +kernel
theorem dX12_ruleWorth_188 : decode cX12_ruleWorth 188 = .ok (.imul, 1) := by decide +kernel
theorem dX12_ruleWorth_189 : decode cX12_ruleWorth 189 = .ok (.aload_n 0, 1) := by decide +kernel
theorem dX12_ruleWorth_190 : decode cX12_ruleWorth 190 = .ok (.getfield 31, 3) := by decide +kernel
theorem dX12_ruleWorth_193 : decode cX12_ruleWorth 193 = .ok (.bipush 40, 2) := by decide +kernel
theorem dX12_ruleWorth_195 : decode cX12_ruleWorth 195 = .ok (.iload_n 1, 1) := by decide +kernel
theorem dX12_ruleWorth_196 : decode cX12_ruleWorth 196 = .ok (.imul, 1) := by decide +kernel
theorem dX12_ruleWorth_197 : decode cX12_ruleWorth 197 = .ok (.aload_n 0, 1) := by decide +kernel
theorem dX12_ruleWorth_198 : decode cX12_ruleWorth 198 = .ok (.getfield 204, 3) := by decide +kernel
theorem dX12_ruleWorth_201 : decode cX12_ruleWorth 201 = .ok (.iadd, 1) := by decide +kernel
theorem dX12_ruleWorth_202 : decode cX12_ruleWorth 202 = .ok (.iaload, 1) := by decide +kernel
theorem dX12_ruleWorth_203 : decode cX12_ruleWorth 203 = .ok (.iadd, 1) := by decide +kernel
theorem dX12_ruleWorth_204 : decode cX12_ruleWorth 204 = .ok (.bipush 48, 2) := by decide +kernel
theorem dX12_ruleWorth_206 : decode cX12_ruleWorth 206 = .ok (.isub, 1) := by decide +kernel
theorem dX12_ruleWorth_207 : decode cX12_ruleWorth 207 = .ok (.istore 5, 2) := by decide +kernel
theorem dX12_ruleWorth_209 : decode cX12_ruleWorth 209 = .ok (.aload_n 0, 1) := by decide +kernel
theorem dX12_ruleWorth_210 : decode cX12_ruleWorth 210 = .ok (.dup, 1) := by decide +kernel
theorem dX12_ruleWorth_211 : decode cX12_ruleWorth 211 = .ok (.getfield 204, 3) := by decide +kernel
theorem dX12_ruleWorth_214 : decode cX12_ruleWorth 214 = .ok (.iconst 1, 1) := by decide +kernel
theorem dX12_ruleWorth_215 : decode cX12_ruleWorth 215 = .ok (.iadd, 1) := by decide +kernel
theorem dX12_ruleWorth_216 : decode cX12_ruleWorth 216 = .ok (.putfield 204, 3) := by decide +kernel
theorem dX12_ruleWorth_219 : decode cX12_ruleWorth 219 = .ok (.goto (-68), 3) := by decide +kernel
theorem dX12_ruleWorth_222 : decode cX12_ruleWorth 222 = .ok (.aload_n 0, 1) := by decide +kernel
theorem dX12_ruleWorth_223 : decode cX12_ruleWorth 223 = .ok (.iload 5, 2) := by decide +kernel
theorem dX12_ruleWorth_225 : decode cX12_ruleWorth 225 = .ok (.invokevirtual 219, 3) := by decide +kernel
theorem dX12_ruleWorth_228 : decode cX12_ruleWorth 228 = .ok (.goto 50, 3) := by decide +kernel
theorem dX12_ruleWorth_231 : decode cX12_ruleWorth 231 = .ok (.iload 4, 2) := by decide +kernel
theorem dX12_ruleWorth_233 : decode cX12_ruleWorth 233 = .ok (.bipush 41, 2) := by decide +kernel
theorem dX12_ruleWorth_235 : decode cX12_ruleWorth 235 = .ok (.if_icmp .ne 21, 3) := by decide +kernel
theorem dX12_ruleWorth_238 : decode cX12_ruleWorth 238 = .ok (.aload_n 0, 1) := by decide +kernel
theorem dX12_ruleWorth_239 : decode cX12_ruleWorth 239 = .ok (.iconst 1, 1) := by decide +kernel
theorem dX12_ruleWorth_240 : decode cX12_ruleWorth 240 = .ok (.invokevirtual 223, 3) := by decide +kernel
theorem dX12_ruleWorth_243 : decode cX12_ruleWorth 243 = .ok (.aload_n 0, 1) := by decide +kernel
theorem dX12_ruleWorth_244 : decode cX12_ruleWorth 244 = .ok (.dup, 1) := by decide +kernel
theorem dX12_ruleWorth_245 : decode cX12_ruleWorth 245 = .ok (.getfield 201, 3) := by decide +kernel
theorem dX12_ruleWorth_248 : decode cX12_ruleWorth 248 = .ok (.iconst 1, 1) := by decide +kernel
theorem dX12_ruleWorth_249 : decode cX12_ruleWorth 249 = .ok (.isub, 1) := by decide +kernel
theorem dX12_ruleWorth_250 : decode cX12_ruleWorth 250 = .ok (.putfield 201, 3) := by decide +kernel
theorem dX12_ruleWorth_253 : decode cX12_ruleWorth 253 = .ok (.goto 25, 3) := by decide +kernel
theorem dX12_ruleWorth_256 : decode cX12_ruleWorth 256 = .ok (.iload 4, 2) := by decide +kernel
theorem dX12_ruleWorth_258 : decode cX12_ruleWorth 258 = .ok (.bipush 40, 2) := by decide +kernel
theorem dX12_ruleWorth_260 : decode cX12_ruleWorth 260 = .ok (.if_icmp .eq 12, 3) := by decide +kernel
theorem dX12_ruleWorth_263 : decode cX12_ruleWorth 263 = .ok (.aload_n 0, 1) := by decide +kernel
theorem dX12_ruleWorth_264 : decode cX12_ruleWorth 264 = .ok (.iload 4, 2) := by decide +kernel
theorem dX12_ruleWorth_266 : decode cX12_ruleWorth 266 = .ok (.invokestatic 207, 3) := by decide +kernel
theorem dX12_ruleWorth_269 : decode cX12_ruleWorth 269 = .ok (.invokevirtual 223, 3) := by decide +kernel
theorem dX12_ruleWorth_272 : decode cX12_ruleWorth 272 = .ok (.aload_n 0, 1) := by decide +kernel
theorem dX12_ruleWorth_273 : decode cX12_ruleWorth 273 = .ok (.iload 4, 2) := by decide +kernel
theorem dX12_ruleWorth_275 : decode cX12_ruleWorth 275 = .ok (.invokevirtual 226, 3) := by decide +kernel
theorem dX12_ruleWorth_278 : decode cX12_ruleWorth 278 = .ok (.goto (-263), 3) := by decide +kernel
theorem dX12_ruleWorth_281 : decode cX12_ruleWorth 281 = .ok (.aload_n 0, 1) := by decide +kernel
theorem dX12_ruleWorth_282 : decode cX12_ruleWorth 282 = .ok (.iconst 1, 1) := by decide +kernel
theorem dX12_ruleWorth_283 : decode cX12_ruleWorth 283 = .ok (.invokevirtual 223, 3) := by decide +kernel
theorem dX12_ruleWorth_286 : decode cX12_ruleWorth 286 = .ok (.aload_n 0, 1) := by decide +kernel
theorem dX12_ruleWorth_287 : decode cX12_ruleWorth 287 = .ok (.getfield 50, 3) := by decide +kernel
theorem dX12_ruleWorth_290 : decode cX12_ruleWorth 290 = .ok (.iconst 0, 1) := by decide +kernel
theorem dX12_ruleWorth_291 : decode cX12_ruleWorth 291 = .ok (.iaload, 1) := by decide +kernel
theorem dX12_ruleWorth_292 : decode cX12_ruleWorth 292 = .ok (.ireturn, 1) := by decide +kernel
theorem dX12_findLacks_0 : decode cX12_findLacks 0 = .ok (.iconst 0, 1) := by decide +kernel
theorem dX12_findLacks_1 : decode cX12_findLacks 1 = .ok (.istore_n 3, 1) := by decide +kernel
theorem dX12_findLacks_2 : decode cX12_findLacks 2 = .ok (.iload_n 3, 1) := by decide +kernel
theorem dX12_findLacks_3 : decode cX12_findLacks 3 = .ok (.iconst 4, 1) := by decide +kernel
theorem dX12_findLacks_4 : decode cX12_findLacks 4 = .ok (.if_icmp .ge 99, 3) := by decide +kernel
theorem dX12_findLacks_7 : decode cX12_findLacks 7 = .ok (.aload_n 0, 1) := by decide +kernel
theorem dX12_findLacks_8 : decode cX12_findLacks 8 = .ok (.iload_n 3, 1) := by decide +kernel
theorem dX12_findLacks_9 : decode cX12_findLacks 9 = .ok (.invokevirtual 117, 3) := by decide +kernel
theorem dX12_findLacks_12 : decode cX12_findLacks 12 = .ok (.ifCond .eq 47, 3) := by decide +kernel
theorem dX12_findLacks_15 : decode cX12_findLacks 15 = .ok (.iload_n 1, 1) := by decide +kernel
theorem dX12_findLacks_16 : decode cX12_findLacks 16 = .ok (.iload_n 3, 1) := by decide +kernel
theorem dX12_findLacks_17 : decode cX12_findLacks 17 = .ok (.invokestatic 155, 3) := by decide +kernel
theorem dX12_findLacks_20 : decode cX12_findLacks 20 = .ok (.aload_n 0, 1) := by decide +kernel
theorem dX12_findLacks_21 : decode cX12_findLacks 21 = .ok (.getfield 13, 3) := by decide +kernel
theorem dX12_findLacks_24 : decode cX12_findLacks 24 = .ok (.bipush 40, 2) := by decide +kernel
theorem dX12_findLacks_26 : decode cX12_findLacks 26 = .ok (.iaload, 1) := by decide +kernel
theorem dX12_findLacks_27 : decode cX12_findLacks 27 = .ok (.imul, 1) := by decide +kernel
theorem dX12_findLacks_28 : decode cX12_findLacks 28 = .ok (.aload_n 0, 1) := by decide +kernel
theorem dX12_findLacks_29 : decode cX12_findLacks 29 = .ok (.getfield 13, 3) := by decide +kernel
theorem dX12_findLacks_32 : decode cX12_findLacks 32 = .ok (.bipush 6, 2) := by decide +kernel
theorem dX12_findLacks_34 : decode cX12_findLacks 34 = .ok (.iload_n 3, 1) := by decide +kernel
theorem dX12_findLacks_35 : decode cX12_findLacks 35 = .ok (.imul, 1) := by decide +kernel
theorem dX12_findLacks_36 : decode cX12_findLacks 36 = .ok (.iaload, 1) := by decide +kernel
theorem dX12_findLacks_37 : decode cX12_findLacks 37 = .ok (.isub, 1) := by decide +kernel
theorem dX12_findLacks_38 : decode cX12_findLacks 38 = .ok (.iload_n 2, 1) := by decide +kernel
theorem dX12_findLacks_39 : decode cX12_findLacks 39 = .ok (.iload_n 3, 1) := by decide +kernel
theorem dX12_findLacks_40 : decode cX12_findLacks 40 = .ok (.ishr, 1) := by decide +kernel
theorem dX12_findLacks_41 : decode cX12_findLacks 41 = .ok (.iconst 1, 1) := by decide +kernel
theorem dX12_findLacks_42 : decode cX12_findLacks 42 = .ok (.iand, 1) := by decide +kernel
theorem dX12_findLacks_43 : decode cX12_findLacks 43 = .ok (.aload_n 0, 1) := by decide +kernel
theorem dX12_findLacks_44 : decode cX12_findLacks 44 = .ok (.getfield 13, 3) := by decide +kernel
theorem dX12_findLacks_47 : decode cX12_findLacks 47 = .ok (.bipush 6, 2) := by decide +kernel
theorem dX12_findLacks_49 : decode cX12_findLacks 49 = .ok (.iload_n 3, 1) := by decide +kernel
theorem dX12_findLacks_50 : decode cX12_findLacks 50 = .ok (.imul, 1) := by decide +kernel
theorem dX12_findLacks_51 : decode cX12_findLacks 51 = .ok (.iconst 1, 1) := by decide +kernel
theorem dX12_findLacks_52 : decode cX12_findLacks 52 = .ok (.iadd, 1) := by decide +kernel
theorem dX12_findLacks_53 : decode cX12_findLacks 53 = .ok (.iaload, 1) := by decide +kernel
theorem dX12_findLacks_54 : decode cX12_findLacks 54 = .ok (.imul, 1) := by decide +kernel
theorem dX12_findLacks_55 : decode cX12_findLacks 55 = .ok (.isub, 1) := by decide +kernel
theorem dX12_findLacks_56 : decode cX12_findLacks 56 = .ok (.goto 4, 3) := by decide +kernel
theorem dX12_findLacks_59 : decode cX12_findLacks 59 = .ok (.iconst 0, 1) := by decide +kernel
theorem dX12_findLacks_60 : decode cX12_findLacks 60 = .ok (.istore 4, 2) := by decide +kernel
theorem dX12_findLacks_62 : decode cX12_findLacks 62 = .ok (.aload_n 0, 1) := by decide +kernel
theorem dX12_findLacks_63 : decode cX12_findLacks 63 = .ok (.getfield 53, 3) := by decide +kernel
theorem dX12_findLacks_66 : decode cX12_findLacks 66 = .ok (.iload_n 3, 1) := by decide +kernel
theorem dX12_findLacks_67 : decode cX12_findLacks 67 = .ok (.iload 4, 2) := by decide +kernel
theorem dX12_findLacks_69 : decode cX12_findLacks 69 = .ok (.ifCond .le 8, 3) := by decide +kernel
theorem dX12_findLacks_72 : decode cX12_findLacks 72 = .ok (.iload 4, 2) := by decide +kernel
theorem dX12_findLacks_74 : decode cX12_findLacks 74 = .ok (.goto 4, 3) := by decide +kernel
theorem dX12_findLacks_77 : decode cX12_findLacks 77 = .ok (.iconst 0, 1) := by decide +kernel
theorem dX12_findLacks_78 : decode cX12_findLacks 78 = .ok (.iastore, 1) := by decide +kernel
theorem dX12_findLacks_79 : decode cX12_findLacks 79 = .ok (.aload_n 0, 1) := by decide +kernel
theorem dX12_findLacks_80 : decode cX12_findLacks 80 = .ok (.getfield 56, 3) := by decide +kernel
theorem dX12_findLacks_83 : decode cX12_findLacks 83 = .ok (.iload_n 3, 1) := by decide +kernel
theorem dX12_findLacks_84 : decode cX12_findLacks 84 = .ok (.iload 4, 2) := by decide +kernel
theorem dX12_findLacks_86 : decode cX12_findLacks 86 = .ok (.ifCond .ge 9, 3) := by decide +kernel
theorem dX12_findLacks_89 : decode cX12_findLacks 89 = .ok (.iload 4, 2) := by decide +kernel
theorem dX12_findLacks_91 : decode cX12_findLacks 91 = .ok (.ineg, 1) := by decide +kernel
theorem dX12_findLacks_92 : decode cX12_findLacks 92 = .ok (.goto 4, 3) := by decide +kernel
theorem dX12_findLacks_95 : decode cX12_findLacks 95 = .ok (.iconst 0, 1) := by decide +kernel
theorem dX12_findLacks_96 : decode cX12_findLacks 96 = .ok (.iastore, 1) := by decide +kernel
theorem dX12_findLacks_97 : decode cX12_findLacks 97 = .ok (.iinc 3 1, 3) := by decide +kernel
theorem dX12_findLacks_100 : decode cX12_findLacks 100 = .ok (.goto (-98), 3) := by decide +kernel
theorem dX12_findLacks_103 : decode cX12_findLacks 103 = .ok (.return_, 1) := by decide +kernel
theorem dX12_least_0 : decode cX12_least 0 = .ok (.iload_n 0, 1) := by decide +kernel
theorem dX12_least_1 : decode cX12_least 1 = .ok (.iload_n 1, 1) := by decide +kernel
theorem dX12_least_2 : decode cX12_least 2 = .ok (.if_icmp .ge 7, 3) := by decide +kernel
theorem dX12_least_5 : decode cX12_least 5 = .ok (.iload_n 0, 1) := by decide +kernel
theorem dX12_least_6 : decode cX12_least 6 = .ok (.goto 4, 3) := by decide +kernel
theorem dX12_least_9 : decode cX12_least 9 = .ok (.iload_n 1, 1) := by decide +kernel
theorem dX12_least_10 : decode cX12_least 10 = .ok (.ireturn, 1) := by decide +kernel
theorem dX12_worth_0 : decode cX12_worth 0 = .ok (.iconst 0, 1) := by decide +kernel
theorem dX12_worth_1 : decode cX12_worth 1 = .ok (.istore_n 1, 1) := by decide +kernel
theorem dX12_worth_2 : decode cX12_worth 2 = .ok (.iconst 0, 1) := by decide +kernel
theorem dX12_worth_3 : decode cX12_worth 3 = .ok (.istore_n 2, 1) := by decide +kernel
theorem dX12_worth_4 : decode cX12_worth 4 = .ok (.iload_n 2, 1) := by decide +kernel
theorem dX12_worth_5 : decode cX12_worth 5 = .ok (.iconst 4, 1) := by decide +kernel
theorem dX12_worth_6 : decode cX12_worth 6 = .ok (.if_icmp .ge 153, 3) := by decide +kernel
theorem dX12_worth_9 : decode cX12_worth 9 = .ok (.aload_n 0, 1) := by decide +kernel
theorem dX12_worth_10 : decode cX12_worth 10 = .ok (.getfield 56, 3) := by decide +kernel
theorem dX12_worth_13 : decode cX12_worth 13 = .ok (.iload_n 2, 1) := by decide +kernel
theorem dX12_worth_14 : decode cX12_worth 14 = .ok (.iaload, 1) := by decide +kernel
theorem dX12_worth_15 : decode cX12_worth 15 = .ok (.ifCond .ne 6, 3) := by decide +kernel
theorem dX12_worth_18 : decode cX12_worth 18 = .ok (.goto 135, 3) := by decide +kernel
theorem dX12_worth_21 : decode cX12_worth 21 = .ok (.aload_n 0, 1) := by decide +kernel
theorem dX12_worth_22 : decode cX12_worth 22 = .ok (.getfield 13, 3) := by decide +kernel
theorem dX12_worth_25 : decode cX12_worth 25 = .ok (.bipush 41, 2) := by decide +kernel
theorem dX12_worth_27 : decode cX12_worth 27 = .ok (.iaload, 1) := by decide +kernel
theorem dX12_worth_28 : decode cX12_worth 28 = .ok (.istore_n 3, 1) := by decide +kernel
theorem dX12_worth_29 : decode cX12_worth 29 = .ok (.iconst 0, 1) := by decide +kernel
theorem dX12_worth_30 : decode cX12_worth 30 = .ok (.istore 4, 2) := by decide +kernel
theorem dX12_worth_32 : decode cX12_worth 32 = .ok (.iload 4, 2) := by decide +kernel
theorem dX12_worth_34 : decode cX12_worth 34 = .ok (.iconst 4, 1) := by decide +kernel
theorem dX12_worth_35 : decode cX12_worth 35 = .ok (.if_icmp .ge 46, 3) := by decide +kernel
theorem dX12_worth_38 : decode cX12_worth 38 = .ok (.aload_n 0, 1) := by decide +kernel
theorem dX12_worth_39 : decode cX12_worth 39 = .ok (.getfield 53, 3) := by decide +kernel
theorem dX12_worth_42 : decode cX12_worth 42 = .ok (.iload 4, 2) := by decide +kernel
theorem dX12_worth_44 : decode cX12_worth 44 = .ok (.iaload, 1) := by decide +kernel
theorem dX12_worth_45 : decode cX12_worth 45 = .ok (.ifCond .le 30, 3) := by decide +kernel
theorem dX12_worth_48 : decode cX12_worth 48 = .ok (.iload_n 3, 1) := by decide +kernel
theorem dX12_worth_49 : decode cX12_worth 49 = .ok (.aload_n 0, 1) := by decide +kernel
theorem dX12_worth_50 : decode cX12_worth 50 = .ok (.getfield 59, 3) := by decide +kernel
theorem dX12_worth_53 : decode cX12_worth 53 = .ok (.iload 4, 2) := by decide +kernel
theorem dX12_worth_55 : decode cX12_worth 55 = .ok (.iaload, 1) := by decide +kernel
theorem dX12_worth_56 : decode cX12_worth 56 = .ok (.aload_n 0, 1) := by decide +kernel
theorem dX12_worth_57 : decode cX12_worth 57 = .ok (.getfield 13, 3) := by decide +kernel
theorem dX12_worth_60 : decode cX12_worth 60 = .ok (.bipush 24, 2) := by decide +kernel
theorem dX12_worth_62 : decode cX12_worth 62 = .ok (.iconst 4, 1) := by decide +kernel
theorem dX12_worth_63 : decode cX12_worth 63 = .ok (.iload 4, 2) := by decide +kernel
theorem dX12_worth_65 : decode cX12_worth 65 = .ok (.imul, 1) := by decide +kernel
theorem dX12_worth_66 : decode cX12_worth 66 = .ok (.iadd, 1) := by decide +kernel
theorem dX12_worth_67 : decode cX12_worth 67 = .ok (.iload_n 2, 1) := by decide +kernel
theorem dX12_worth_68 : decode cX12_worth 68 = .ok (.iadd, 1) := by decide +kernel
theorem dX12_worth_69 : decode cX12_worth 69 = .ok (.iaload, 1) := by decide +kernel
theorem dX12_worth_70 : decode cX12_worth 70 = .ok (.iadd, 1) := by decide +kernel
theorem dX12_worth_71 : decode cX12_worth 71 = .ok (.invokestatic 229, 3) := by decide +kernel
theorem dX12_worth_74 : decode cX12_worth 74 = .ok (.istore_n 3, 1) := by decide +kernel
theorem dX12_worth_75 : decode cX12_worth 75 = .ok (.iinc 4 1, 3) := by decide +kernel
theorem dX12_worth_78 : decode cX12_worth 78 = .ok (.goto (-46), 3) := by decide +kernel
theorem dX12_worth_81 : decode cX12_worth 81 = .ok (.aload_n 0, 1) := by decide +kernel
theorem dX12_worth_82 : decode cX12_worth 82 = .ok (.getfield 13, 3) := by decide +kernel
theorem dX12_worth_85 : decode cX12_worth 85 = .ok (.bipush 6, 2) := by decide +kernel
theorem dX12_worth_87 : decode cX12_worth 87 = .ok (.iload_n 2, 1) := by decide +kernel
theorem dX12_worth_88 : decode cX12_worth 88 = .ok (.imul, 1) := by decide +kernel
theorem dX12_worth_89 : decode cX12_worth 89 = .ok (.iconst 3, 1) := by decide +kernel
theorem dX12_worth_90 : decode cX12_worth 90 = .ok (.iadd, 1) := by decide +kernel
theorem dX12_worth_91 : decode cX12_worth 91 = .ok (.iaload, 1) := by decide +kernel
theorem dX12_worth_92 : decode cX12_worth 92 = .ok (.istore 4, 2) := by decide +kernel
theorem dX12_worth_94 : decode cX12_worth 94 = .ok (.aload_n 0, 1) := by decide +kernel
theorem dX12_worth_95 : decode cX12_worth 95 = .ok (.getfield 56, 3) := by decide +kernel
theorem dX12_worth_98 : decode cX12_worth 98 = .ok (.iload_n 2, 1) := by decide +kernel
theorem dX12_worth_99 : decode cX12_worth 99 = .ok (.iaload, 1) := by decide +kernel
theorem dX12_worth_100 : decode cX12_worth 100 = .ok (.aload_n 0, 1) := by decide +kernel
theorem dX12_worth_101 : decode cX12_worth 101 = .ok (.getfield 13, 3) := by decide +kernel
theorem dX12_worth_104 : decode cX12_worth 104 = .ok (.bipush 6, 2) := by decide +kernel
theorem dX12_worth_106 : decode cX12_worth 106 = .ok (.iload_n 2, 1) := by decide +kernel
theorem dX12_worth_107 : decode cX12_worth 107 = .ok (.imul, 1) := by decide +kernel
theorem dX12_worth_108 : decode cX12_worth 108 = .ok (.iconst 4, 1) := by decide +kernel
theorem dX12_worth_109 : decode cX12_worth 109 = .ok (.iadd, 1) := by decide +kernel
theorem dX12_worth_110 : decode cX12_worth 110 = .ok (.iaload, 1) := by decide +kernel
theorem dX12_worth_111 : decode cX12_worth 111 = .ok (.isub, 1) := by decide +kernel
theorem dX12_worth_112 : decode cX12_worth 112 = .ok (.istore 5, 2) := by decide +kernel
theorem dX12_worth_114 : decode cX12_worth 114 = .ok (.iload_n 1, 1) := by decide +kernel
theorem dX12_worth_115 : decode cX12_worth 115 = .ok (.iload_n 3, 1) := by decide +kernel
theorem dX12_worth_116 : decode cX12_worth 116 = .ok (.iload 4, 2) := by decide +kernel
theorem dX12_worth_118 : decode cX12_worth 118 = .ok (.invokestatic 229, 3) := by decide +kernel
theorem dX12_worth_121 : decode cX12_worth 121 = .ok (.aload_n 0, 1) := by decide +kernel
theorem dX12_worth_122 : decode cX12_worth 122 = .ok (.getfield 56, 3) := by decide +kernel
theorem dX12_worth_125 : decode cX12_worth 125 = .ok (.iload_n 2, 1) := by decide +kernel
theorem dX12_worth_126 : decode cX12_worth 126 = .ok (.iaload, 1) := by decide +kernel
theorem dX12_worth_127 : decode cX12_worth 127 = .ok (.imul, 1) := by decide +kernel
theorem dX12_worth_128 : decode cX12_worth 128 = .ok (.iload_n 3, 1) := by decide +kernel
theorem dX12_worth_129 : decode cX12_worth 129 = .ok (.iload 4, 2) := by decide +kernel
theorem dX12_worth_131 : decode cX12_worth 131 = .ok (.if_icmp .le 18, 3) := by decide +kernel
theorem dX12_worth_134 : decode cX12_worth 134 = .ok (.iload 5, 2) := by decide +kernel
theorem dX12_worth_136 : decode cX12_worth 136 = .ok (.ifCond .le 13, 3) := by decide +kernel
theorem dX12_worth_139 : decode cX12_worth 139 = .ok (.iload_n 3, 1) := by decide +kernel
theorem dX12_worth_140 : decode cX12_worth 140 = .ok (.iload 4, 2) := by decide +kernel
theorem dX12_worth_142 : decode cX12_worth 142 = .ok (.isub, 1) := by decide +kernel
theorem dX12_worth_143 : decode cX12_worth 143 = .ok (.iload 5, 2) := by decide +kernel
theorem dX12_worth_145 : decode cX12_worth 145 = .ok (.imul, 1) := by decide +kernel
theorem dX12_worth_146 : decode cX12_worth 146 = .ok (.goto 4, 3) := by decide +kernel
theorem dX12_worth_149 : decode cX12_worth 149 = .ok (.iconst 0, 1) := by decide +kernel
theorem dX12_worth_150 : decode cX12_worth 150 = .ok (.iadd, 1) := by decide +kernel
theorem dX12_worth_151 : decode cX12_worth 151 = .ok (.iadd, 1) := by decide +kernel
theorem dX12_worth_152 : decode cX12_worth 152 = .ok (.istore_n 1, 1) := by decide +kernel
theorem dX12_worth_153 : decode cX12_worth 153 = .ok (.iinc 2 1, 3) := by decide +kernel
theorem dX12_worth_156 : decode cX12_worth 156 = .ok (.goto (-152), 3) := by decide +kernel
theorem dX12_worth_159 : decode cX12_worth 159 = .ok (.iconst 0, 1) := by decide +kernel
theorem dX12_worth_160 : decode cX12_worth 160 = .ok (.istore_n 2, 1) := by decide +kernel
theorem dX12_worth_161 : decode cX12_worth 161 = .ok (.iload_n 2, 1) := by decide +kernel
theorem dX12_worth_162 : decode cX12_worth 162 = .ok (.iconst 4, 1) := by decide +kernel
theorem dX12_worth_163 : decode cX12_worth 163 = .ok (.if_icmp .ge 25, 3) := by decide +kernel
theorem dX12_worth_166 : decode cX12_worth 166 = .ok (.iload_n 1, 1) := by decide +kernel
theorem dX12_worth_167 : decode cX12_worth 167 = .ok (.aload_n 0, 1) := by decide +kernel
theorem dX12_worth_168 : decode cX12_worth 168 = .ok (.getfield 59, 3) := by decide +kernel
theorem dX12_worth_171 : decode cX12_worth 171 = .ok (.iload_n 2, 1) := by decide +kernel
theorem dX12_worth_172 : decode cX12_worth 172 = .ok (.iaload, 1) := by decide +kernel
theorem dX12_worth_173 : decode cX12_worth 173 = .ok (.aload_n 0, 1) := by decide +kernel
theorem dX12_worth_174 : decode cX12_worth 174 = .ok (.getfield 53, 3) := by decide +kernel
theorem dX12_worth_177 : decode cX12_worth 177 = .ok (.iload_n 2, 1) := by decide +kernel
theorem dX12_worth_178 : decode cX12_worth 178 = .ok (.iaload, 1) := by decide +kernel
theorem dX12_worth_179 : decode cX12_worth 179 = .ok (.imul, 1) := by decide +kernel
theorem dX12_worth_180 : decode cX12_worth 180 = .ok (.isub, 1) := by decide +kernel
theorem dX12_worth_181 : decode cX12_worth 181 = .ok (.istore_n 1, 1) := by decide +kernel
theorem dX12_worth_182 : decode cX12_worth 182 = .ok (.iinc 2 1, 3) := by decide +kernel
theorem dX12_worth_185 : decode cX12_worth 185 = .ok (.goto (-24), 3) := by decide +kernel
theorem dX12_worth_188 : decode cX12_worth 188 = .ok (.iload_n 1, 1) := by decide +kernel
theorem dX12_worth_189 : decode cX12_worth 189 = .ok (.ireturn, 1) := by decide +kernel
theorem dX12_priceOf_0 : decode cX12_priceOf 0 = .ok (.iload_n 2, 1) := by decide +kernel
theorem dX12_priceOf_1 : decode cX12_priceOf 1 = .ok (.bipush 8, 2) := by decide +kernel
theorem dX12_priceOf_3 : decode cX12_priceOf 3 = .ok (.if_icmp .ne 5, 3) := by decide +kernel
theorem dX12_priceOf_6 : decode cX12_priceOf 6 = .ok (.iconst 0, 1) := by decide +kernel
theorem dX12_priceOf_7 : decode cX12_priceOf 7 = .ok (.ireturn, 1) := by decide +kernel
theorem dX12_priceOf_8 : decode cX12_priceOf 8 = .ok (.iload_n 2, 1) := by decide +kernel
theorem dX12_priceOf_9 : decode cX12_priceOf 9 = .ok (.iconst 2, 1) := by decide +kernel
theorem dX12_priceOf_10 : decode cX12_priceOf 10 = .ok (.idiv, 1) := by decide +kernel
theorem dX12_priceOf_11 : decode cX12_priceOf 11 = .ok (.istore_n 3, 1) := by decide +kernel
theorem dX12_priceOf_12 : decode cX12_priceOf 12 = .ok (.aload_n 0, 1) := by decide +kernel
theorem dX12_priceOf_13 : decode cX12_priceOf 13 = .ok (.getfield 56, 3) := by decide +kernel
theorem dX12_priceOf_16 : decode cX12_priceOf 16 = .ok (.iload_n 3, 1) := by decide +kernel
theorem dX12_priceOf_17 : decode cX12_priceOf 17 = .ok (.iaload, 1) := by decide +kernel
theorem dX12_priceOf_18 : decode cX12_priceOf 18 = .ok (.ifCond .ne 5, 3) := by decide +kernel
theorem dX12_priceOf_21 : decode cX12_priceOf 21 = .ok (.iconst 0, 1) := by decide +kernel
theorem dX12_priceOf_22 : decode cX12_priceOf 22 = .ok (.ireturn, 1) := by decide +kernel
theorem dX12_priceOf_23 : decode cX12_priceOf 23 = .ok (.iload_n 2, 1) := by decide +kernel
theorem dX12_priceOf_24 : decode cX12_priceOf 24 = .ok (.iconst 2, 1) := by decide +kernel
theorem dX12_priceOf_25 : decode cX12_priceOf 25 = .ok (.irem, 1) := by decide +kernel
theorem dX12_priceOf_26 : decode cX12_priceOf 26 = .ok (.ifCond .ne 13, 3) := by decide +kernel
theorem dX12_priceOf_29 : decode cX12_priceOf 29 = .ok (.aload_n 0, 1) := by decide +kernel
theorem dX12_priceOf_30 : decode cX12_priceOf 30 = .ok (.getfield 13, 3) := by decide +kernel
theorem dX12_priceOf_33 : decode cX12_priceOf 33 = .ok (.bipush 41, 2) := by decide +kernel
theorem dX12_priceOf_35 : decode cX12_priceOf 35 = .ok (.iaload, 1) := by decide +kernel
theorem dX12_priceOf_36 : decode cX12_priceOf 36 = .ok (.goto 14, 3) := by decide +kernel
theorem dX12_priceOf_39 : decode cX12_priceOf 39 = .ok (.aload_n 0, 1) := by decide +kernel
theorem dX12_priceOf_40 : decode cX12_priceOf 40 = .ok (.getfield 13, 3) := by decide +kernel
theorem dX12_priceOf_43 : decode cX12_priceOf 43 = .ok (.bipush 6, 2) := by decide +kernel
theorem dX12_priceOf_45 : decode cX12_priceOf 45 = .ok (.iload_n 3, 1) := by decide +kernel
theorem dX12_priceOf_46 : decode cX12_priceOf 46 = .ok (.imul, 1) := by decide +kernel
theorem dX12_priceOf_47 : decode cX12_priceOf 47 = .ok (.iconst 3, 1) := by decide +kernel
theorem dX12_priceOf_48 : decode cX12_priceOf 48 = .ok (.iadd, 1) := by decide +kernel
theorem dX12_priceOf_49 : decode cX12_priceOf 49 = .ok (.iaload, 1) := by decide +kernel
theorem dX12_priceOf_50 : decode cX12_priceOf 50 = .ok (.aload_n 0, 1) := by decide +kernel
theorem dX12_priceOf_51 : decode cX12_priceOf 51 = .ok (.getfield 13, 3) := by decide +kernel
theorem dX12_priceOf_54 : decode cX12_priceOf 54 = .ok (.bipush 24, 2) := by decide +kernel
theorem dX12_priceOf_56 : decode cX12_priceOf 56 = .ok (.iconst 4, 1) := by decide +kernel
theorem dX12_priceOf_57 : decode cX12_priceOf 57 = .ok (.iload_n 1, 1) := by decide +kernel
theorem dX12_priceOf_58 : decode cX12_priceOf 58 = .ok (.imul, 1) := by decide +kernel
theorem dX12_priceOf_59 : decode cX12_priceOf 59 = .ok (.iadd, 1) := by decide +kernel
theorem dX12_priceOf_60 : decode cX12_priceOf 60 = .ok (.iload_n 3, 1) := by decide +kernel
theorem dX12_priceOf_61 : decode cX12_priceOf 61 = .ok (.iadd, 1) := by decide +kernel
theorem dX12_priceOf_62 : decode cX12_priceOf 62 = .ok (.iaload, 1) := by decide +kernel
theorem dX12_priceOf_63 : decode cX12_priceOf 63 = .ok (.isub, 1) := by decide +kernel
theorem dX12_priceOf_64 : decode cX12_priceOf 64 = .ok (.istore 4, 2) := by decide +kernel
theorem dX12_priceOf_66 : decode cX12_priceOf 66 = .ok (.iload 4, 2) := by decide +kernel
theorem dX12_priceOf_68 : decode cX12_priceOf 68 = .ok (.ifCond .le 8, 3) := by decide +kernel
theorem dX12_priceOf_71 : decode cX12_priceOf 71 = .ok (.iload 4, 2) := by decide +kernel
theorem dX12_priceOf_73 : decode cX12_priceOf 73 = .ok (.goto 4, 3) := by decide +kernel
theorem dX12_priceOf_76 : decode cX12_priceOf 76 = .ok (.iconst 0, 1) := by decide +kernel
theorem dX12_priceOf_77 : decode cX12_priceOf 77 = .ok (.ireturn, 1) := by decide +kernel
theorem dX12_tries_0 : decode cX12_tries 0 = .ok (.aload_n 0, 1) := by decide +kernel
theorem dX12_tries_1 : decode cX12_tries 1 = .ok (.invokevirtual 232, 3) := by decide +kernel
theorem dX12_tries_4 : decode cX12_tries 4 = .ok (.istore_n 1, 1) := by decide +kernel
theorem dX12_tries_5 : decode cX12_tries 5 = .ok (.iload_n 1, 1) := by decide +kernel
theorem dX12_tries_6 : decode cX12_tries 6 = .ok (.aload_n 0, 1) := by decide +kernel
theorem dX12_tries_7 : decode cX12_tries 7 = .ok (.getfield 235, 3) := by decide +kernel
theorem dX12_tries_10 : decode cX12_tries 10 = .ok (.if_icmp .le 8, 3) := by decide +kernel
theorem dX12_tries_13 : decode cX12_tries 13 = .ok (.aload_n 0, 1) := by decide +kernel
theorem dX12_tries_14 : decode cX12_tries 14 = .ok (.iload_n 1, 1) := by decide +kernel
theorem dX12_tries_15 : decode cX12_tries 15 = .ok (.putfield 235, 3) := by decide +kernel
theorem dX12_tries_18 : decode cX12_tries 18 = .ok (.return_, 1) := by decide +kernel
theorem dX12_triesTwo_0 : decode cX12_triesTwo 0 = .ok (.iconst 0, 1) := by decide +kernel
theorem dX12_triesTwo_1 : decode cX12_triesTwo 1 = .ok (.istore_n 3, 1) := by decide +kernel
theorem dX12_triesTwo_2 : decode cX12_triesTwo 2 = .ok (.iload_n 3, 1) := by decide +kernel
theorem dX12_triesTwo_3 : decode cX12_triesTwo 3 = .ok (.bipush 9, 2) := by decide +kernel
theorem dX12_triesTwo_5 : decode cX12_triesTwo 5 = .ok (.if_icmp .ge 138, 3) := by decide +kernel
theorem dX12_triesTwo_8 : decode cX12_triesTwo 8 = .ok (.aload_n 0, 1) := by decide +kernel
theorem dX12_triesTwo_9 : decode cX12_triesTwo 9 = .ok (.getfield 59, 3) := by decide +kernel
theorem dX12_triesTwo_12 : decode cX12_triesTwo 12 = .ok (.iload_n 1, 1) := by decide +kernel
theorem dX12_triesTwo_13 : decode cX12_triesTwo 13 = .ok (.aload_n 0, 1) := by decide +kernel
theorem dX12_triesTwo_14 : decode cX12_triesTwo 14 = .ok (.iload_n 1, 1) := by decide +kernel
theorem dX12_triesTwo_15 : decode cX12_triesTwo 15 = .ok (.iload_n 3, 1) := by decide +kernel
theorem dX12_triesTwo_16 : decode cX12_triesTwo 16 = .ok (.invokevirtual 238, 3) := by decide +kernel
theorem dX12_triesTwo_19 : decode cX12_triesTwo 19 = .ok (.iastore, 1) := by decide +kernel
theorem dX12_triesTwo_20 : decode cX12_triesTwo 20 = .ok (.iconst 0, 1) := by decide +kernel
theorem dX12_triesTwo_21 : decode cX12_triesTwo 21 = .ok (.istore 4, 2) := by decide +kernel
theorem dX12_triesTwo_23 : decode cX12_triesTwo 23 = .ok (.iload 4, 2) := by decide +kernel
theorem dX12_triesTwo_25 : decode cX12_triesTwo 25 = .ok (.bipush 9, 2) := by decide +kernel
theorem dX12_triesTwo_27 : decode cX12_triesTwo 27 = .ok (.if_icmp .ge 26, 3) := by decide +kernel
theorem dX12_triesTwo_30 : decode cX12_triesTwo 30 = .ok (.aload_n 0, 1) := by decide +kernel
theorem dX12_triesTwo_31 : decode cX12_triesTwo 31 = .ok (.getfield 59, 3) := by decide +kernel
theorem dX12_triesTwo_34 : decode cX12_triesTwo 34 = .ok (.iload_n 2, 1) := by decide +kernel
theorem dX12_triesTwo_35 : decode cX12_triesTwo 35 = .ok (.aload_n 0, 1) := by decide +kernel
theorem dX12_triesTwo_36 : decode cX12_triesTwo 36 = .ok (.iload_n 2, 1) := by decide +kernel
theorem dX12_triesTwo_37 : decode cX12_triesTwo 37 = .ok (.iload 4, 2) := by decide +kernel
theorem dX12_triesTwo_39 : decode cX12_triesTwo 39 = .ok (.invokevirtual 238, 3) := by decide +kernel
theorem dX12_triesTwo_42 : decode cX12_triesTwo 42 = .ok (.iastore, 1) := by decide +kernel
theorem dX12_triesTwo_43 : decode cX12_triesTwo 43 = .ok (.aload_n 0, 1) := by decide +kernel
theorem dX12_triesTwo_44 : decode cX12_triesTwo 44 = .ok (.invokevirtual 241, 3) := by decide +kernel
theorem dX12_triesTwo_47 : decode cX12_triesTwo 47 = .ok (.iinc 4 1, 3) := by decide +kernel
theorem dX12_triesTwo_50 : decode cX12_triesTwo 50 = .ok (.goto (-27), 3) := by decide +kernel
theorem dX12_triesTwo_53 : decode cX12_triesTwo 53 = .ok (.iconst 0, 1) := by decide +kernel
theorem dX12_triesTwo_54 : decode cX12_triesTwo 54 = .ok (.istore 4, 2) := by decide +kernel
theorem dX12_triesTwo_56 : decode cX12_triesTwo 56 = .ok (.iload 4, 2) := by decide +kernel
theorem dX12_triesTwo_58 : decode cX12_triesTwo 58 = .ok (.iconst 4, 1) := by decide +kernel
theorem dX12_triesTwo_59 : decode cX12_triesTwo 59 = .ok (.if_icmp .ge 78, 3) := by decide +kernel
theorem dX12_triesTwo_62 : decode cX12_triesTwo 62 = .ok (.aload_n 0, 1) := by decide +kernel
theorem dX12_triesTwo_63 : decode cX12_triesTwo 63 = .ok (.getfield 59, 3) := by decide +kernel
theorem dX12_triesTwo_66 : decode cX12_triesTwo 66 = .ok (.iload_n 1, 1) := by decide +kernel
theorem dX12_triesTwo_67 : decode cX12_triesTwo 67 = .ok (.iaload, 1) := by decide +kernel
theorem dX12_triesTwo_68 : decode cX12_triesTwo 68 = .ok (.aload_n 0, 1) := by decide +kernel
theorem dX12_triesTwo_69 : decode cX12_triesTwo 69 = .ok (.getfield 13, 3) := by decide +kernel
theorem dX12_triesTwo_72 : decode cX12_triesTwo 72 = .ok (.bipush 24, 2) := by decide +kernel
theorem dX12_triesTwo_74 : decode cX12_triesTwo 74 = .ok (.iconst 4, 1) := by decide +kernel
theorem dX12_triesTwo_75 : decode cX12_triesTwo 75 = .ok (.iload_n 1, 1) := by decide +kernel
theorem dX12_triesTwo_76 : decode cX12_triesTwo 76 = .ok (.imul, 1) := by decide +kernel
theorem dX12_triesTwo_77 : decode cX12_triesTwo 77 = .ok (.iadd, 1) := by decide +kernel
theorem dX12_triesTwo_78 : decode cX12_triesTwo 78 = .ok (.iload 4, 2) := by decide +kernel
theorem dX12_triesTwo_80 : decode cX12_triesTwo 80 = .ok (.iadd, 1) := by decide +kernel
theorem dX12_triesTwo_81 : decode cX12_triesTwo 81 = .ok (.iaload, 1) := by decide +kernel
theorem dX12_triesTwo_82 : decode cX12_triesTwo 82 = .ok (.iadd, 1) := by decide +kernel
theorem dX12_triesTwo_83 : decode cX12_triesTwo 83 = .ok (.aload_n 0, 1) := by decide +kernel
theorem dX12_triesTwo_84 : decode cX12_triesTwo 84 = .ok (.getfield 13, 3) := by decide +kernel
theorem dX12_triesTwo_87 : decode cX12_triesTwo 87 = .ok (.bipush 24, 2) := by decide +kernel
theorem dX12_triesTwo_89 : decode cX12_triesTwo 89 = .ok (.iconst 4, 1) := by decide +kernel
theorem dX12_triesTwo_90 : decode cX12_triesTwo 90 = .ok (.iload_n 2, 1) := by decide +kernel
theorem dX12_triesTwo_91 : decode cX12_triesTwo 91 = .ok (.imul, 1) := by decide +kernel
theorem dX12_triesTwo_92 : decode cX12_triesTwo 92 = .ok (.iadd, 1) := by decide +kernel
theorem dX12_triesTwo_93 : decode cX12_triesTwo 93 = .ok (.iload 4, 2) := by decide +kernel
theorem dX12_triesTwo_95 : decode cX12_triesTwo 95 = .ok (.iadd, 1) := by decide +kernel
theorem dX12_triesTwo_96 : decode cX12_triesTwo 96 = .ok (.iaload, 1) := by decide +kernel
theorem dX12_triesTwo_97 : decode cX12_triesTwo 97 = .ok (.isub, 1) := by decide +kernel
theorem dX12_triesTwo_98 : decode cX12_triesTwo 98 = .ok (.istore 5, 2) := by decide +kernel
theorem dX12_triesTwo_100 : decode cX12_triesTwo 100 = .ok (.aload_n 0, 1) := by decide +kernel
theorem dX12_triesTwo_101 : decode cX12_triesTwo 101 = .ok (.getfield 59, 3) := by decide +kernel
theorem dX12_triesTwo_104 : decode cX12_triesTwo 104 = .ok (.iload_n 2, 1) := by decide +kernel
theorem dX12_triesTwo_105 : decode cX12_triesTwo 105 = .ok (.iload 5, 2) := by decide +kernel
theorem dX12_triesTwo_107 : decode cX12_triesTwo 107 = .ok (.ifCond .le 8, 3) := by decide +kernel
theorem dX12_triesTwo_110 : decode cX12_triesTwo 110 = .ok (.iload 5, 2) := by decide +kernel
theorem dX12_triesTwo_112 : decode cX12_triesTwo 112 = .ok (.goto 4, 3) := by decide +kernel
theorem dX12_triesTwo_115 : decode cX12_triesTwo 115 = .ok (.iconst 0, 1) := by decide +kernel
theorem dX12_triesTwo_116 : decode cX12_triesTwo 116 = .ok (.iastore, 1) := by decide +kernel
theorem dX12_triesTwo_117 : decode cX12_triesTwo 117 = .ok (.aload_n 0, 1) := by decide +kernel
theorem dX12_triesTwo_118 : decode cX12_triesTwo 118 = .ok (.getfield 56, 3) := by decide +kernel
theorem dX12_triesTwo_121 : decode cX12_triesTwo 121 = .ok (.iload 4, 2) := by decide +kernel
theorem dX12_triesTwo_123 : decode cX12_triesTwo 123 = .ok (.iaload, 1) := by decide +kernel
theorem dX12_triesTwo_124 : decode cX12_triesTwo 124 = .ok (.ifCond .le 7, 3) := by decide +kernel
theorem dX12_triesTwo_127 : decode cX12_triesTwo 127 = .ok (.aload_n 0, 1) := by decide +kernel
theorem dX12_triesTwo_128 : decode cX12_triesTwo 128 = .ok (.invokevirtual 241, 3) := by decide +kernel
theorem dX12_triesTwo_131 : decode cX12_triesTwo 131 = .ok (.iinc 4 1, 3) := by decide +kernel
theorem dX12_triesTwo_134 : decode cX12_triesTwo 134 = .ok (.goto (-78), 3) := by decide +kernel
theorem dX12_triesTwo_137 : decode cX12_triesTwo 137 = .ok (.iinc 3 1, 3) := by decide +kernel
theorem dX12_triesTwo_140 : decode cX12_triesTwo 140 = .ok (.goto (-138), 3) := by decide +kernel
theorem dX12_triesTwo_143 : decode cX12_triesTwo 143 = .ok (.return_, 1) := by decide +kernel
theorem dX12_triesLevel_0 : decode cX12_triesLevel 0 = .ok (.iconst 0, 1) := by decide +kernel
theorem dX12_triesLevel_1 : decode cX12_triesLevel 1 = .ok (.istore_n 3, 1) := by decide +kernel
theorem dX12_triesLevel_2 : decode cX12_triesLevel 2 = .ok (.iload_n 3, 1) := by decide +kernel
theorem dX12_triesLevel_3 : decode cX12_triesLevel 3 = .ok (.iconst 4, 1) := by decide +kernel
theorem dX12_triesLevel_4 : decode cX12_triesLevel 4 = .ok (.if_icmp .ge 52, 3) := by decide +kernel
theorem dX12_triesLevel_7 : decode cX12_triesLevel 7 = .ok (.iload_n 2, 1) := by decide +kernel
theorem dX12_triesLevel_8 : decode cX12_triesLevel 8 = .ok (.aload_n 0, 1) := by decide +kernel
theorem dX12_triesLevel_9 : decode cX12_triesLevel 9 = .ok (.getfield 13, 3) := by decide +kernel
theorem dX12_triesLevel_12 : decode cX12_triesLevel 12 = .ok (.bipush 24, 2) := by decide +kernel
theorem dX12_triesLevel_14 : decode cX12_triesLevel 14 = .ok (.iconst 4, 1) := by decide +kernel
theorem dX12_triesLevel_15 : decode cX12_triesLevel 15 = .ok (.iload_n 3, 1) := by decide +kernel
theorem dX12_triesLevel_16 : decode cX12_triesLevel 16 = .ok (.imul, 1) := by decide +kernel
theorem dX12_triesLevel_17 : decode cX12_triesLevel 17 = .ok (.iadd, 1) := by decide +kernel
theorem dX12_triesLevel_18 : decode cX12_triesLevel 18 = .ok (.iload_n 1, 1) := by decide +kernel
theorem dX12_triesLevel_19 : decode cX12_triesLevel 19 = .ok (.iadd, 1) := by decide +kernel
theorem dX12_triesLevel_20 : decode cX12_triesLevel 20 = .ok (.iaload, 1) := by decide +kernel
theorem dX12_triesLevel_21 : decode cX12_triesLevel 21 = .ok (.isub, 1) := by decide +kernel
theorem dX12_triesLevel_22 : decode cX12_triesLevel 22 = .ok (.istore 4, 2) := by decide +kernel
theorem dX12_triesLevel_24 : decode cX12_triesLevel 24 = .ok (.aload_n 0, 1) := by decide +kernel
theorem dX12_triesLevel_25 : decode cX12_triesLevel 25 = .ok (.getfield 59, 3) := by decide +kernel
theorem dX12_triesLevel_28 : decode cX12_triesLevel 28 = .ok (.iload_n 3, 1) := by decide +kernel
theorem dX12_triesLevel_29 : decode cX12_triesLevel 29 = .ok (.aload_n 0, 1) := by decide +kernel
theorem dX12_triesLevel_30 : decode cX12_triesLevel 30 = .ok (.getfield 53, 3) := by decide +kernel
theorem dX12_triesLevel_33 : decode cX12_triesLevel 33 = .ok (.iload_n 3, 1) := by decide +kernel
theorem dX12_triesLevel_34 : decode cX12_triesLevel 34 = .ok (.iaload, 1) := by decide +kernel
theorem dX12_triesLevel_35 : decode cX12_triesLevel 35 = .ok (.ifCond .le 13, 3) := by decide +kernel
theorem dX12_triesLevel_38 : decode cX12_triesLevel 38 = .ok (.iload 4, 2) := by decide +kernel
theorem dX12_triesLevel_40 : decode cX12_triesLevel 40 = .ok (.ifCond .le 8, 3) := by decide +kernel
theorem dX12_triesLevel_43 : decode cX12_triesLevel 43 = .ok (.iload 4, 2) := by decide +kernel
theorem dX12_triesLevel_45 : decode cX12_triesLevel 45 = .ok (.goto 4, 3) := by decide +kernel
theorem dX12_triesLevel_48 : decode cX12_triesLevel 48 = .ok (.iconst 0, 1) := by decide +kernel
theorem dX12_triesLevel_49 : decode cX12_triesLevel 49 = .ok (.iastore, 1) := by decide +kernel
theorem dX12_triesLevel_50 : decode cX12_triesLevel 50 = .ok (.iinc 3 1, 3) := by decide +kernel
theorem dX12_triesLevel_53 : decode cX12_triesLevel 53 = .ok (.goto (-51), 3) := by decide +kernel
theorem dX12_triesLevel_56 : decode cX12_triesLevel 56 = .ok (.aload_n 0, 1) := by decide +kernel
theorem dX12_triesLevel_57 : decode cX12_triesLevel 57 = .ok (.invokevirtual 241, 3) := by decide +kernel
theorem dX12_triesLevel_60 : decode cX12_triesLevel 60 = .ok (.return_, 1) := by decide +kernel
theorem dX12_laterOf_0 : decode cX12_laterOf 0 = .ok (.aload_n 0, 1) := by decide +kernel
theorem dX12_laterOf_1 : decode cX12_laterOf 1 = .ok (.iload_n 1, 1) := by decide +kernel
theorem dX12_laterOf_2 : decode cX12_laterOf 2 = .ok (.iload_n 2, 1) := by decide +kernel
theorem dX12_laterOf_3 : decode cX12_laterOf 3 = .ok (.invokevirtual 244, 3) := by decide +kernel
theorem dX12_laterOf_6 : decode cX12_laterOf 6 = .ok (.iconst 0, 1) := by decide +kernel
theorem dX12_laterOf_7 : decode cX12_laterOf 7 = .ok (.istore_n 3, 1) := by decide +kernel
theorem dX12_laterOf_8 : decode cX12_laterOf 8 = .ok (.iconst 0, 1) := by decide +kernel
theorem dX12_laterOf_9 : decode cX12_laterOf 9 = .ok (.istore 4, 2) := by decide +kernel
theorem dX12_laterOf_11 : decode cX12_laterOf 11 = .ok (.iconst 0, 1) := by decide +kernel
theorem dX12_laterOf_12 : decode cX12_laterOf 12 = .ok (.istore 5, 2) := by decide +kernel
theorem dX12_laterOf_14 : decode cX12_laterOf 14 = .ok (.iload 5, 2) := by decide +kernel
theorem dX12_laterOf_16 : decode cX12_laterOf 16 = .ok (.iconst 4, 1) := by decide +kernel
theorem dX12_laterOf_17 : decode cX12_laterOf 17 = .ok (.if_icmp .ge 64, 3) := by decide +kernel
theorem dX12_laterOf_20 : decode cX12_laterOf 20 = .ok (.aload_n 0, 1) := by decide +kernel
theorem dX12_laterOf_21 : decode cX12_laterOf 21 = .ok (.getfield 59, 3) := by decide +kernel
theorem dX12_laterOf_24 : decode cX12_laterOf 24 = .ok (.iload 5, 2) := by decide +kernel
theorem dX12_laterOf_26 : decode cX12_laterOf 26 = .ok (.iconst 0, 1) := by decide +kernel
theorem dX12_laterOf_27 : decode cX12_laterOf 27 = .ok (.iastore, 1) := by decide +kernel
theorem dX12_laterOf_28 : decode cX12_laterOf 28 = .ok (.aload_n 0, 1) := by decide +kernel
theorem dX12_laterOf_29 : decode cX12_laterOf 29 = .ok (.getfield 53, 3) := by decide +kernel
theorem dX12_laterOf_32 : decode cX12_laterOf 32 = .ok (.iload 5, 2) := by decide +kernel
theorem dX12_laterOf_34 : decode cX12_laterOf 34 = .ok (.iaload, 1) := by decide +kernel
theorem dX12_laterOf_35 : decode cX12_laterOf 35 = .ok (.ifCond .le 20, 3) := by decide +kernel
theorem dX12_laterOf_38 : decode cX12_laterOf 38 = .ok (.aload_n 0, 1) := by decide +kernel
theorem dX12_laterOf_39 : decode cX12_laterOf 39 = .ok (.aload_n 0, 1) := by decide +kernel
theorem dX12_laterOf_40 : decode cX12_laterOf 40 = .ok (.getfield 248, 3) := by decide +kernel
theorem dX12_laterOf_43 : decode cX12_laterOf 43 = .ok (.putfield 251, 3) := by decide +kernel
theorem dX12_laterOf_46 : decode cX12_laterOf 46 = .ok (.aload_n 0, 1) := by decide +kernel
theorem dX12_laterOf_47 : decode cX12_laterOf 47 = .ok (.iload 5, 2) := by decide +kernel
theorem dX12_laterOf_49 : decode cX12_laterOf 49 = .ok (.putfield 248, 3) := by decide +kernel
theorem dX12_laterOf_52 : decode cX12_laterOf 52 = .ok (.iinc 3 1, 3) := by decide +kernel
theorem dX12_laterOf_55 : decode cX12_laterOf 55 = .ok (.iload 4, 2) := by decide +kernel
theorem dX12_laterOf_57 : decode cX12_laterOf 57 = .ok (.aload_n 0, 1) := by decide +kernel
theorem dX12_laterOf_58 : decode cX12_laterOf 58 = .ok (.getfield 56, 3) := by decide +kernel
theorem dX12_laterOf_61 : decode cX12_laterOf 61 = .ok (.iload 5, 2) := by decide +kernel
end
section
theorem dX12_laterOf_63 : decode cX12_laterOf 63 = .ok (.iaload, 1) := by decide +kernel
theorem dX12_laterOf_64 : decode cX12_laterOf 64 = .ok (.ifCond .le 7, 3) := by decide +kernel
theorem dX12_laterOf_67 : decode cX12_laterOf 67 = .ok (.iconst 1, 1) := by decide +kernel
theorem dX12_laterOf_68 : decode cX12_laterOf 68 = .ok (.goto 4, 3) := by decide +kernel
theorem dX12_laterOf_71 : decode cX12_laterOf 71 = .ok (.iconst 0, 1) := by decide +kernel
theorem dX12_laterOf_72 : decode cX12_laterOf 72 = .ok (.iadd, 1) := by decide +kernel
theorem dX12_laterOf_73 : decode cX12_laterOf 73 = .ok (.istore 4, 2) := by decide +kernel
theorem dX12_laterOf_75 : decode cX12_laterOf 75 = .ok (.iinc 5 1, 3) := by decide +kernel
theorem dX12_laterOf_78 : decode cX12_laterOf 78 = .ok (.goto (-64), 3) := by decide +kernel
theorem dX12_laterOf_81 : decode cX12_laterOf 81 = .ok (.aload_n 0, 1) := by decide +kernel
theorem dX12_laterOf_82 : decode cX12_laterOf 82 = .ok (.iconst 0, 1) := by decide +kernel
theorem dX12_laterOf_83 : decode cX12_laterOf 83 = .ok (.putfield 235, 3) := by decide +kernel
theorem dX12_laterOf_86 : decode cX12_laterOf 86 = .ok (.iload 4, 2) := by decide +kernel
theorem dX12_laterOf_88 : decode cX12_laterOf 88 = .ok (.ifCond .ne 5, 3) := by decide +kernel
theorem dX12_laterOf_91 : decode cX12_laterOf 91 = .ok (.iconst 0, 1) := by decide +kernel
theorem dX12_laterOf_92 : decode cX12_laterOf 92 = .ok (.ireturn, 1) := by decide +kernel
theorem dX12_laterOf_93 : decode cX12_laterOf 93 = .ok (.aload_n 0, 1) := by decide +kernel
theorem dX12_laterOf_94 : decode cX12_laterOf 94 = .ok (.invokevirtual 241, 3) := by decide +kernel
theorem dX12_laterOf_97 : decode cX12_laterOf 97 = .ok (.iconst 0, 1) := by decide +kernel
theorem dX12_laterOf_98 : decode cX12_laterOf 98 = .ok (.istore 5, 2) := by decide +kernel
theorem dX12_laterOf_100 : decode cX12_laterOf 100 = .ok (.iload 5, 2) := by decide +kernel
theorem dX12_laterOf_102 : decode cX12_laterOf 102 = .ok (.iconst 4, 1) := by decide +kernel
theorem dX12_laterOf_103 : decode cX12_laterOf 103 = .ok (.if_icmp .ge 95, 3) := by decide +kernel
theorem dX12_laterOf_106 : decode cX12_laterOf 106 = .ok (.iload 4, 2) := by decide +kernel
theorem dX12_laterOf_108 : decode cX12_laterOf 108 = .ok (.iconst 1, 1) := by decide +kernel
theorem dX12_laterOf_109 : decode cX12_laterOf 109 = .ok (.if_icmp .ne 89, 3) := by decide +kernel
theorem dX12_laterOf_112 : decode cX12_laterOf 112 = .ok (.aload_n 0, 1) := by decide +kernel
theorem dX12_laterOf_113 : decode cX12_laterOf 113 = .ok (.getfield 56, 3) := by decide +kernel
theorem dX12_laterOf_116 : decode cX12_laterOf 116 = .ok (.iload 5, 2) := by decide +kernel
theorem dX12_laterOf_118 : decode cX12_laterOf 118 = .ok (.iaload, 1) := by decide +kernel
theorem dX12_laterOf_119 : decode cX12_laterOf 119 = .ok (.ifCond .ne 6, 3) := by decide +kernel
theorem dX12_laterOf_122 : decode cX12_laterOf 122 = .ok (.goto 70, 3) := by decide +kernel
theorem dX12_laterOf_125 : decode cX12_laterOf 125 = .ok (.aload_n 0, 1) := by decide +kernel
theorem dX12_laterOf_126 : decode cX12_laterOf 126 = .ok (.iload 5, 2) := by decide +kernel
theorem dX12_laterOf_128 : decode cX12_laterOf 128 = .ok (.aload_n 0, 1) := by decide +kernel
theorem dX12_laterOf_129 : decode cX12_laterOf 129 = .ok (.getfield 13, 3) := by decide +kernel
theorem dX12_laterOf_132 : decode cX12_laterOf 132 = .ok (.bipush 41, 2) := by decide +kernel
theorem dX12_laterOf_134 : decode cX12_laterOf 134 = .ok (.iaload, 1) := by decide +kernel
theorem dX12_laterOf_135 : decode cX12_laterOf 135 = .ok (.invokevirtual 254, 3) := by decide +kernel
theorem dX12_laterOf_138 : decode cX12_laterOf 138 = .ok (.aload_n 0, 1) := by decide +kernel
theorem dX12_laterOf_139 : decode cX12_laterOf 139 = .ok (.iload 5, 2) := by decide +kernel
theorem dX12_laterOf_141 : decode cX12_laterOf 141 = .ok (.aload_n 0, 1) := by decide +kernel
theorem dX12_laterOf_142 : decode cX12_laterOf 142 = .ok (.getfield 13, 3) := by decide +kernel
theorem dX12_laterOf_145 : decode cX12_laterOf 145 = .ok (.bipush 6, 2) := by decide +kernel
theorem dX12_laterOf_147 : decode cX12_laterOf 147 = .ok (.iload 5, 2) := by decide +kernel
theorem dX12_laterOf_149 : decode cX12_laterOf 149 = .ok (.imul, 1) := by decide +kernel
theorem dX12_laterOf_150 : decode cX12_laterOf 150 = .ok (.iconst 3, 1) := by decide +kernel
theorem dX12_laterOf_151 : decode cX12_laterOf 151 = .ok (.iadd, 1) := by decide +kernel
theorem dX12_laterOf_152 : decode cX12_laterOf 152 = .ok (.iaload, 1) := by decide +kernel
theorem dX12_laterOf_153 : decode cX12_laterOf 153 = .ok (.invokevirtual 254, 3) := by decide +kernel
theorem dX12_laterOf_156 : decode cX12_laterOf 156 = .ok (.iconst 0, 1) := by decide +kernel
theorem dX12_laterOf_157 : decode cX12_laterOf 157 = .ok (.istore 6, 2) := by decide +kernel
theorem dX12_laterOf_159 : decode cX12_laterOf 159 = .ok (.iload 6, 2) := by decide +kernel
theorem dX12_laterOf_161 : decode cX12_laterOf 161 = .ok (.iconst 4, 1) := by decide +kernel
theorem dX12_laterOf_162 : decode cX12_laterOf 162 = .ok (.if_icmp .ge 30, 3) := by decide +kernel
theorem dX12_laterOf_165 : decode cX12_laterOf 165 = .ok (.aload_n 0, 1) := by decide +kernel
theorem dX12_laterOf_166 : decode cX12_laterOf 166 = .ok (.iload 5, 2) := by decide +kernel
theorem dX12_laterOf_168 : decode cX12_laterOf 168 = .ok (.aload_n 0, 1) := by decide +kernel
theorem dX12_laterOf_169 : decode cX12_laterOf 169 = .ok (.getfield 13, 3) := by decide +kernel
theorem dX12_laterOf_172 : decode cX12_laterOf 172 = .ok (.bipush 24, 2) := by decide +kernel
theorem dX12_laterOf_174 : decode cX12_laterOf 174 = .ok (.iconst 4, 1) := by decide +kernel
theorem dX12_laterOf_175 : decode cX12_laterOf 175 = .ok (.iload 6, 2) := by decide +kernel
theorem dX12_laterOf_177 : decode cX12_laterOf 177 = .ok (.imul, 1) := by decide +kernel
theorem dX12_laterOf_178 : decode cX12_laterOf 178 = .ok (.iadd, 1) := by decide +kernel
theorem dX12_laterOf_179 : decode cX12_laterOf 179 = .ok (.iload 5, 2) := by decide +kernel
theorem dX12_laterOf_181 : decode cX12_laterOf 181 = .ok (.iadd, 1) := by decide +kernel
theorem dX12_laterOf_182 : decode cX12_laterOf 182 = .ok (.iaload, 1) := by decide +kernel
theorem dX12_laterOf_183 : decode cX12_laterOf 183 = .ok (.invokevirtual 254, 3) := by decide +kernel
theorem dX12_laterOf_186 : decode cX12_laterOf 186 = .ok (.iinc 6 1, 3) := by decide +kernel
theorem dX12_laterOf_189 : decode cX12_laterOf 189 = .ok (.goto (-30), 3) := by decide +kernel
theorem dX12_laterOf_192 : decode cX12_laterOf 192 = .ok (.iinc 5 1, 3) := by decide +kernel
theorem dX12_laterOf_195 : decode cX12_laterOf 195 = .ok (.goto (-95), 3) := by decide +kernel
theorem dX12_laterOf_198 : decode cX12_laterOf 198 = .ok (.iconst 0, 1) := by decide +kernel
theorem dX12_laterOf_199 : decode cX12_laterOf 199 = .ok (.istore 5, 2) := by decide +kernel
theorem dX12_laterOf_201 : decode cX12_laterOf 201 = .ok (.iload 5, 2) := by decide +kernel
theorem dX12_laterOf_203 : decode cX12_laterOf 203 = .ok (.bipush 8, 2) := by decide +kernel
theorem dX12_laterOf_205 : decode cX12_laterOf 205 = .ok (.if_icmp .ge 43, 3) := by decide +kernel
theorem dX12_laterOf_208 : decode cX12_laterOf 208 = .ok (.iload 4, 2) := by decide +kernel
theorem dX12_laterOf_210 : decode cX12_laterOf 210 = .ok (.iconst 1, 1) := by decide +kernel
theorem dX12_laterOf_211 : decode cX12_laterOf 211 = .ok (.if_icmp .le 37, 3) := by decide +kernel
theorem dX12_laterOf_214 : decode cX12_laterOf 214 = .ok (.iload_n 3, 1) := by decide +kernel
theorem dX12_laterOf_215 : decode cX12_laterOf 215 = .ok (.iconst 1, 1) := by decide +kernel
theorem dX12_laterOf_216 : decode cX12_laterOf 216 = .ok (.if_icmp .ne 32, 3) := by decide +kernel
theorem dX12_laterOf_219 : decode cX12_laterOf 219 = .ok (.aload_n 0, 1) := by decide +kernel
theorem dX12_laterOf_220 : decode cX12_laterOf 220 = .ok (.getfield 59, 3) := by decide +kernel
theorem dX12_laterOf_223 : decode cX12_laterOf 223 = .ok (.aload_n 0, 1) := by decide +kernel
theorem dX12_laterOf_224 : decode cX12_laterOf 224 = .ok (.getfield 248, 3) := by decide +kernel
theorem dX12_laterOf_227 : decode cX12_laterOf 227 = .ok (.aload_n 0, 1) := by decide +kernel
theorem dX12_laterOf_228 : decode cX12_laterOf 228 = .ok (.aload_n 0, 1) := by decide +kernel
theorem dX12_laterOf_229 : decode cX12_laterOf 229 = .ok (.getfield 248, 3) := by decide +kernel
theorem dX12_laterOf_232 : decode cX12_laterOf 232 = .ok (.iload 5, 2) := by decide +kernel
theorem dX12_laterOf_234 : decode cX12_laterOf 234 = .ok (.invokevirtual 238, 3) := by decide +kernel
theorem dX12_laterOf_237 : decode cX12_laterOf 237 = .ok (.iastore, 1) := by decide +kernel
theorem dX12_laterOf_238 : decode cX12_laterOf 238 = .ok (.aload_n 0, 1) := by decide +kernel
theorem dX12_laterOf_239 : decode cX12_laterOf 239 = .ok (.invokevirtual 241, 3) := by decide +kernel
theorem dX12_laterOf_242 : decode cX12_laterOf 242 = .ok (.iinc 5 1, 3) := by decide +kernel
theorem dX12_laterOf_245 : decode cX12_laterOf 245 = .ok (.goto (-44), 3) := by decide +kernel
theorem dX12_laterOf_248 : decode cX12_laterOf 248 = .ok (.iload 4, 2) := by decide +kernel
theorem dX12_laterOf_250 : decode cX12_laterOf 250 = .ok (.iconst 2, 1) := by decide +kernel
theorem dX12_laterOf_251 : decode cX12_laterOf 251 = .ok (.if_icmp .ne 32, 3) := by decide +kernel
theorem dX12_laterOf_254 : decode cX12_laterOf 254 = .ok (.iload_n 3, 1) := by decide +kernel
theorem dX12_laterOf_255 : decode cX12_laterOf 255 = .ok (.iconst 2, 1) := by decide +kernel
theorem dX12_laterOf_256 : decode cX12_laterOf 256 = .ok (.if_icmp .ne 27, 3) := by decide +kernel
theorem dX12_laterOf_259 : decode cX12_laterOf 259 = .ok (.aload_n 0, 1) := by decide +kernel
theorem dX12_laterOf_260 : decode cX12_laterOf 260 = .ok (.aload_n 0, 1) := by decide +kernel
theorem dX12_laterOf_261 : decode cX12_laterOf 261 = .ok (.getfield 248, 3) := by decide +kernel
theorem dX12_laterOf_264 : decode cX12_laterOf 264 = .ok (.aload_n 0, 1) := by decide +kernel
theorem dX12_laterOf_265 : decode cX12_laterOf 265 = .ok (.getfield 251, 3) := by decide +kernel
theorem dX12_laterOf_268 : decode cX12_laterOf 268 = .ok (.invokevirtual 257, 3) := by decide +kernel
theorem dX12_laterOf_271 : decode cX12_laterOf 271 = .ok (.aload_n 0, 1) := by decide +kernel
theorem dX12_laterOf_272 : decode cX12_laterOf 272 = .ok (.aload_n 0, 1) := by decide +kernel
theorem dX12_laterOf_273 : decode cX12_laterOf 273 = .ok (.getfield 251, 3) := by decide +kernel
theorem dX12_laterOf_276 : decode cX12_laterOf 276 = .ok (.aload_n 0, 1) := by decide +kernel
theorem dX12_laterOf_277 : decode cX12_laterOf 277 = .ok (.getfield 248, 3) := by decide +kernel
theorem dX12_laterOf_280 : decode cX12_laterOf 280 = .ok (.invokevirtual 257, 3) := by decide +kernel
theorem dX12_laterOf_283 : decode cX12_laterOf 283 = .ok (.aload_n 0, 1) := by decide +kernel
theorem dX12_laterOf_284 : decode cX12_laterOf 284 = .ok (.getfield 235, 3) := by decide +kernel
theorem dX12_laterOf_287 : decode cX12_laterOf 287 = .ok (.ireturn, 1) := by decide +kernel
theorem dX12_lets_0 : decode cX12_lets 0 = .ok (.iconst 0, 1) := by decide +kernel
theorem dX12_lets_1 : decode cX12_lets 1 = .ok (.istore_n 2, 1) := by decide +kernel
theorem dX12_lets_2 : decode cX12_lets 2 = .ok (.iload_n 2, 1) := by decide +kernel
theorem dX12_lets_3 : decode cX12_lets 3 = .ok (.aload_n 0, 1) := by decide +kernel
theorem dX12_lets_4 : decode cX12_lets 4 = .ok (.getfield 186, 3) := by decide +kernel
theorem dX12_lets_7 : decode cX12_lets 7 = .ok (.if_icmp .ge 29, 3) := by decide +kernel
theorem dX12_lets_10 : decode cX12_lets 10 = .ok (.aload_n 0, 1) := by decide +kernel
theorem dX12_lets_11 : decode cX12_lets 11 = .ok (.getfield 40, 3) := by decide +kernel
theorem dX12_lets_14 : decode cX12_lets 14 = .ok (.iload_n 2, 1) := by decide +kernel
theorem dX12_lets_15 : decode cX12_lets 15 = .ok (.baload, 1) := by decide +kernel
theorem dX12_lets_16 : decode cX12_lets 16 = .ok (.ifCond .ne 14, 3) := by decide +kernel
theorem dX12_lets_19 : decode cX12_lets 19 = .ok (.aload_n 0, 1) := by decide +kernel
theorem dX12_lets_20 : decode cX12_lets 20 = .ok (.iload_n 2, 1) := by decide +kernel
theorem dX12_lets_21 : decode cX12_lets 21 = .ok (.iload_n 1, 1) := by decide +kernel
theorem dX12_lets_22 : decode cX12_lets 22 = .ok (.invokevirtual 260, 3) := by decide +kernel
theorem dX12_lets_25 : decode cX12_lets 25 = .ok (.ifCond .ne 5, 3) := by decide +kernel
theorem dX12_lets_28 : decode cX12_lets 28 = .ok (.iconst 0, 1) := by decide +kernel
theorem dX12_lets_29 : decode cX12_lets 29 = .ok (.ireturn, 1) := by decide +kernel
theorem dX12_lets_30 : decode cX12_lets 30 = .ok (.iinc 2 1, 3) := by decide +kernel
theorem dX12_lets_33 : decode cX12_lets 33 = .ok (.goto (-31), 3) := by decide +kernel
theorem dX12_lets_36 : decode cX12_lets 36 = .ok (.aload_n 0, 1) := by decide +kernel
theorem dX12_lets_37 : decode cX12_lets 37 = .ok (.iload_n 1, 1) := by decide +kernel
theorem dX12_lets_38 : decode cX12_lets 38 = .ok (.invokevirtual 264, 3) := by decide +kernel
theorem dX12_lets_41 : decode cX12_lets 41 = .ok (.ireturn, 1) := by decide +kernel
theorem dX12_hired_0 : decode cX12_hired 0 = .ok (.iconst 0, 1) := by decide +kernel
theorem dX12_hired_1 : decode cX12_hired 1 = .ok (.istore_n 2, 1) := by decide +kernel
theorem dX12_hired_2 : decode cX12_hired 2 = .ok (.iconst 0, 1) := by decide +kernel
theorem dX12_hired_3 : decode cX12_hired 3 = .ok (.istore_n 3, 1) := by decide +kernel
theorem dX12_hired_4 : decode cX12_hired 4 = .ok (.iload_n 3, 1) := by decide +kernel
theorem dX12_hired_5 : decode cX12_hired 5 = .ok (.iconst 4, 1) := by decide +kernel
theorem dX12_hired_6 : decode cX12_hired 6 = .ok (.if_icmp .ge 29, 3) := by decide +kernel
theorem dX12_hired_9 : decode cX12_hired 9 = .ok (.iload_n 2, 1) := by decide +kernel
theorem dX12_hired_10 : decode cX12_hired 10 = .ok (.iload_n 1, 1) := by decide +kernel
theorem dX12_hired_11 : decode cX12_hired 11 = .ok (.iload_n 3, 1) := by decide +kernel
theorem dX12_hired_12 : decode cX12_hired 12 = .ok (.invokestatic 155, 3) := by decide +kernel
theorem dX12_hired_15 : decode cX12_hired 15 = .ok (.aload_n 0, 1) := by decide +kernel
theorem dX12_hired_16 : decode cX12_hired 16 = .ok (.getfield 13, 3) := by decide +kernel
theorem dX12_hired_19 : decode cX12_hired 19 = .ok (.bipush 6, 2) := by decide +kernel
theorem dX12_hired_21 : decode cX12_hired 21 = .ok (.iload_n 3, 1) := by decide +kernel
theorem dX12_hired_22 : decode cX12_hired 22 = .ok (.imul, 1) := by decide +kernel
theorem dX12_hired_23 : decode cX12_hired 23 = .ok (.iconst 2, 1) := by decide +kernel
theorem dX12_hired_24 : decode cX12_hired 24 = .ok (.iadd, 1) := by decide +kernel
theorem dX12_hired_25 : decode cX12_hired 25 = .ok (.iaload, 1) := by decide +kernel
theorem dX12_hired_26 : decode cX12_hired 26 = .ok (.imul, 1) := by decide +kernel
theorem dX12_hired_27 : decode cX12_hired 27 = .ok (.iadd, 1) := by decide +kernel
theorem dX12_hired_28 : decode cX12_hired 28 = .ok (.istore_n 2, 1) := by decide +kernel
theorem dX12_hired_29 : decode cX12_hired 29 = .ok (.iinc 3 1, 3) := by decide +kernel
theorem dX12_hired_32 : decode cX12_hired 32 = .ok (.goto (-28), 3) := by decide +kernel
theorem dX12_hired_35 : decode cX12_hired 35 = .ok (.iload_n 2, 1) := by decide +kernel
theorem dX12_hired_36 : decode cX12_hired 36 = .ok (.ireturn, 1) := by decide +kernel
theorem dX12_finds_0 : decode cX12_finds 0 = .ok (.aload_n 0, 1) := by decide +kernel
theorem dX12_finds_1 : decode cX12_finds 1 = .ok (.getfield 121, 3) := by decide +kernel
theorem dX12_finds_4 : decode cX12_finds 4 = .ok (.ifCond .eq 4, 3) := by decide +kernel
theorem dX12_finds_7 : decode cX12_finds 7 = .ok (.return_, 1) := by decide +kernel
theorem dX12_finds_8 : decode cX12_finds 8 = .ok (.aload_n 0, 1) := by decide +kernel
theorem dX12_finds_9 : decode cX12_finds 9 = .ok (.iconst 1, 1) := by decide +kernel
theorem dX12_finds_10 : decode cX12_finds 10 = .ok (.putfield 121, 3) := by decide +kernel
theorem dX12_finds_13 : decode cX12_finds 13 = .ok (.iconst 0, 1) := by decide +kernel
theorem dX12_finds_14 : decode cX12_finds 14 = .ok (.istore_n 1, 1) := by decide +kernel
theorem dX12_finds_15 : decode cX12_finds 15 = .ok (.iload_n 1, 1) := by decide +kernel
theorem dX12_finds_16 : decode cX12_finds 16 = .ok (.bipush 16, 2) := by decide +kernel
theorem dX12_finds_18 : decode cX12_finds 18 = .ok (.if_icmp .ge 20, 3) := by decide +kernel
theorem dX12_finds_21 : decode cX12_finds 21 = .ok (.aload_n 0, 1) := by decide +kernel
theorem dX12_finds_22 : decode cX12_finds 22 = .ok (.getfield 71, 3) := by decide +kernel
theorem dX12_finds_25 : decode cX12_finds 25 = .ok (.iload_n 1, 1) := by decide +kernel
theorem dX12_finds_26 : decode cX12_finds 26 = .ok (.aload_n 0, 1) := by decide +kernel
theorem dX12_finds_27 : decode cX12_finds 27 = .ok (.iload_n 1, 1) := by decide +kernel
theorem dX12_finds_28 : decode cX12_finds 28 = .ok (.invokevirtual 267, 3) := by decide +kernel
theorem dX12_finds_31 : decode cX12_finds 31 = .ok (.bastore, 1) := by decide +kernel
theorem dX12_finds_32 : decode cX12_finds 32 = .ok (.iinc 1 1, 3) := by decide +kernel
theorem dX12_finds_35 : decode cX12_finds 35 = .ok (.goto (-20), 3) := by decide +kernel
theorem dX12_finds_38 : decode cX12_finds 38 = .ok (.iconst 0, 1) := by decide +kernel
theorem dX12_finds_39 : decode cX12_finds 39 = .ok (.istore_n 1, 1) := by decide +kernel
theorem dX12_finds_40 : decode cX12_finds 40 = .ok (.iload_n 1, 1) := by decide +kernel
theorem dX12_finds_41 : decode cX12_finds 41 = .ok (.sipush 256, 3) := by decide +kernel
theorem dX12_finds_44 : decode cX12_finds 44 = .ok (.if_icmp .ge 78, 3) := by decide +kernel
theorem dX12_finds_47 : decode cX12_finds 47 = .ok (.aload_n 0, 1) := by decide +kernel
theorem dX12_finds_48 : decode cX12_finds 48 = .ok (.getfield 68, 3) := by decide +kernel
theorem dX12_finds_51 : decode cX12_finds 51 = .ok (.iload_n 1, 1) := by decide +kernel
theorem dX12_finds_52 : decode cX12_finds 52 = .ok (.aload_n 0, 1) := by decide +kernel
theorem dX12_finds_53 : decode cX12_finds 53 = .ok (.iload_n 1, 1) := by decide +kernel
theorem dX12_finds_54 : decode cX12_finds 54 = .ok (.invokevirtual 270, 3) := by decide +kernel
theorem dX12_finds_57 : decode cX12_finds 57 = .ok (.bastore, 1) := by decide +kernel
theorem dX12_finds_58 : decode cX12_finds 58 = .ok (.iconst 0, 1) := by decide +kernel
theorem dX12_finds_59 : decode cX12_finds 59 = .ok (.istore_n 2, 1) := by decide +kernel
theorem dX12_finds_60 : decode cX12_finds 60 = .ok (.iload_n 2, 1) := by decide +kernel
theorem dX12_finds_61 : decode cX12_finds 61 = .ok (.bipush 16, 2) := by decide +kernel
theorem dX12_finds_63 : decode cX12_finds 63 = .ok (.if_icmp .ge 53, 3) := by decide +kernel
theorem dX12_finds_66 : decode cX12_finds 66 = .ok (.aload_n 0, 1) := by decide +kernel
theorem dX12_finds_67 : decode cX12_finds 67 = .ok (.getfield 68, 3) := by decide +kernel
theorem dX12_finds_70 : decode cX12_finds 70 = .ok (.iload_n 1, 1) := by decide +kernel
theorem dX12_finds_71 : decode cX12_finds 71 = .ok (.baload, 1) := by decide +kernel
theorem dX12_finds_72 : decode cX12_finds 72 = .ok (.ifCond .eq 44, 3) := by decide +kernel
theorem dX12_finds_75 : decode cX12_finds 75 = .ok (.aload_n 0, 1) := by decide +kernel
theorem dX12_finds_76 : decode cX12_finds 76 = .ok (.getfield 62, 3) := by decide +kernel
theorem dX12_finds_79 : decode cX12_finds 79 = .ok (.bipush 16, 2) := by decide +kernel
theorem dX12_finds_81 : decode cX12_finds 81 = .ok (.iload_n 1, 1) := by decide +kernel
theorem dX12_finds_82 : decode cX12_finds 82 = .ok (.imul, 1) := by decide +kernel
theorem dX12_finds_83 : decode cX12_finds 83 = .ok (.iload_n 2, 1) := by decide +kernel
theorem dX12_finds_84 : decode cX12_finds 84 = .ok (.iadd, 1) := by decide +kernel
theorem dX12_finds_85 : decode cX12_finds 85 = .ok (.aload_n 0, 1) := by decide +kernel
theorem dX12_finds_86 : decode cX12_finds 86 = .ok (.iload_n 2, 1) := by decide +kernel
theorem dX12_finds_87 : decode cX12_finds 87 = .ok (.invokevirtual 264, 3) := by decide +kernel
theorem dX12_finds_90 : decode cX12_finds 90 = .ok (.ifCond .eq 18, 3) := by decide +kernel
theorem dX12_finds_93 : decode cX12_finds 93 = .ok (.aload_n 0, 1) := by decide +kernel
theorem dX12_finds_94 : decode cX12_finds 94 = .ok (.iload_n 1, 1) := by decide +kernel
theorem dX12_finds_95 : decode cX12_finds 95 = .ok (.invokevirtual 273, 3) := by decide +kernel
theorem dX12_finds_98 : decode cX12_finds 98 = .ok (.aload_n 0, 1) := by decide +kernel
theorem dX12_finds_99 : decode cX12_finds 99 = .ok (.iload_n 1, 1) := by decide +kernel
theorem dX12_finds_100 : decode cX12_finds 100 = .ok (.iload_n 2, 1) := by decide +kernel
theorem dX12_finds_101 : decode cX12_finds 101 = .ok (.invokevirtual 276, 3) := by decide +kernel
theorem dX12_finds_104 : decode cX12_finds 104 = .ok (.iadd, 1) := by decide +kernel
theorem dX12_finds_105 : decode cX12_finds 105 = .ok (.goto 4, 3) := by decide +kernel
theorem dX12_finds_108 : decode cX12_finds 108 = .ok (.iconst 0, 1) := by decide +kernel
theorem dX12_finds_109 : decode cX12_finds 109 = .ok (.iastore, 1) := by decide +kernel
theorem dX12_finds_110 : decode cX12_finds 110 = .ok (.iinc 2 1, 3) := by decide +kernel
theorem dX12_finds_113 : decode cX12_finds 113 = .ok (.goto (-53), 3) := by decide +kernel
theorem dX12_finds_116 : decode cX12_finds 116 = .ok (.iinc 1 1, 3) := by decide +kernel
theorem dX12_finds_119 : decode cX12_finds 119 = .ok (.goto (-79), 3) := by decide +kernel
theorem dX12_finds_122 : decode cX12_finds 122 = .ok (.aload_n 0, 1) := by decide +kernel
theorem dX12_finds_123 : decode cX12_finds 123 = .ok (.aload_n 0, 1) := by decide +kernel
theorem dX12_finds_124 : decode cX12_finds 124 = .ok (.getfield 13, 3) := by decide +kernel
theorem dX12_finds_127 : decode cX12_finds 127 = .ok (.bipush 42, 2) := by decide +kernel
theorem dX12_finds_129 : decode cX12_finds 129 = .ok (.iaload, 1) := by decide +kernel
theorem dX12_finds_130 : decode cX12_finds 130 = .ok (.invokevirtual 279, 3) := by decide +kernel
theorem dX12_finds_133 : decode cX12_finds 133 = .ok (.return_, 1) := by decide +kernel
theorem dX12_draws_0 : decode cX12_draws 0 = .ok (.iconst 0, 1) := by decide +kernel
theorem dX12_draws_1 : decode cX12_draws 1 = .ok (.istore_n 2, 1) := by decide +kernel
theorem dX12_draws_2 : decode cX12_draws 2 = .ok (.iload_n 2, 1) := by decide +kernel
theorem dX12_draws_3 : decode cX12_draws 3 = .ok (.bipush 16, 2) := by decide +kernel
theorem dX12_draws_5 : decode cX12_draws 5 = .ok (.if_icmp .ge 37, 3) := by decide +kernel
theorem dX12_draws_8 : decode cX12_draws 8 = .ok (.aload_n 0, 1) := by decide +kernel
theorem dX12_draws_9 : decode cX12_draws 9 = .ok (.getfield 65, 3) := by decide +kernel
theorem dX12_draws_12 : decode cX12_draws 12 = .ok (.iload_n 2, 1) := by decide +kernel
theorem dX12_draws_13 : decode cX12_draws 13 = .ok (.aload_n 0, 1) := by decide +kernel
theorem dX12_draws_14 : decode cX12_draws 14 = .ok (.getfield 71, 3) := by decide +kernel
theorem dX12_draws_17 : decode cX12_draws 17 = .ok (.iload_n 2, 1) := by decide +kernel
theorem dX12_draws_18 : decode cX12_draws 18 = .ok (.baload, 1) := by decide +kernel
theorem dX12_draws_19 : decode cX12_draws 19 = .ok (.ifCond .eq 15, 3) := by decide +kernel
theorem dX12_draws_22 : decode cX12_draws 22 = .ok (.iload_n 2, 1) := by decide +kernel
theorem dX12_draws_23 : decode cX12_draws 23 = .ok (.invokestatic 213, 3) := by decide +kernel
theorem dX12_draws_26 : decode cX12_draws 26 = .ok (.iload_n 1, 1) := by decide +kernel
theorem dX12_draws_27 : decode cX12_draws 27 = .ok (.if_icmp .gt 7, 3) := by decide +kernel
theorem dX12_draws_30 : decode cX12_draws 30 = .ok (.iconst 1, 1) := by decide +kernel
theorem dX12_draws_31 : decode cX12_draws 31 = .ok (.goto 4, 3) := by decide +kernel
theorem dX12_draws_34 : decode cX12_draws 34 = .ok (.iconst 0, 1) := by decide +kernel
theorem dX12_draws_35 : decode cX12_draws 35 = .ok (.bastore, 1) := by decide +kernel
theorem dX12_draws_36 : decode cX12_draws 36 = .ok (.iinc 2 1, 3) := by decide +kernel
theorem dX12_draws_39 : decode cX12_draws 39 = .ok (.goto (-37), 3) := by decide +kernel
theorem dX12_draws_42 : decode cX12_draws 42 = .ok (.return_, 1) := by decide +kernel
theorem dX12_inSet_0 : decode cX12_inSet 0 = .ok (.iload_n 1, 1) := by decide +kernel
theorem dX12_inSet_1 : decode cX12_inSet 1 = .ok (.ifCond .lt 9, 3) := by decide +kernel
theorem dX12_inSet_4 : decode cX12_inSet 4 = .ok (.iload_n 1, 1) := by decide +kernel
theorem dX12_inSet_5 : decode cX12_inSet 5 = .ok (.bipush 15, 2) := by decide +kernel
theorem dX12_inSet_7 : decode cX12_inSet 7 = .ok (.if_icmp .le 9, 3) := by decide +kernel
theorem dX12_inSet_10 : decode cX12_inSet 10 = .ok (.aload_n 0, 1) := by decide +kernel
theorem dX12_inSet_11 : decode cX12_inSet 11 = .ok (.iconst (-1), 1) := by decide +kernel
theorem dX12_inSet_12 : decode cX12_inSet 12 = .ok (.invokevirtual 113, 3) := by decide +kernel
theorem dX12_inSet_15 : decode cX12_inSet 15 = .ok (.ireturn, 1) := by decide +kernel
theorem dX12_inSet_16 : decode cX12_inSet 16 = .ok (.aload_n 0, 1) := by decide +kernel
theorem dX12_inSet_17 : decode cX12_inSet 17 = .ok (.invokevirtual 282, 3) := by decide +kernel
theorem dX12_inSet_20 : decode cX12_inSet 20 = .ok (.aload_n 0, 1) := by decide +kernel
theorem dX12_inSet_21 : decode cX12_inSet 21 = .ok (.iload_n 1, 1) := by decide +kernel
theorem dX12_inSet_22 : decode cX12_inSet 22 = .ok (.invokevirtual 264, 3) := by decide +kernel
theorem dX12_inSet_25 : decode cX12_inSet 25 = .ok (.ifCond .eq 16, 3) := by decide +kernel
theorem dX12_inSet_28 : decode cX12_inSet 28 = .ok (.aload_n 0, 1) := by decide +kernel
theorem dX12_inSet_29 : decode cX12_inSet 29 = .ok (.getfield 65, 3) := by decide +kernel
theorem dX12_inSet_32 : decode cX12_inSet 32 = .ok (.iload_n 1, 1) := by decide +kernel
theorem dX12_inSet_33 : decode cX12_inSet 33 = .ok (.baload, 1) := by decide +kernel
theorem dX12_inSet_34 : decode cX12_inSet 34 = .ok (.ifCond .eq 7, 3) := by decide +kernel
theorem dX12_inSet_37 : decode cX12_inSet 37 = .ok (.iconst 1, 1) := by decide +kernel
theorem dX12_inSet_38 : decode cX12_inSet 38 = .ok (.goto 4, 3) := by decide +kernel
theorem dX12_inSet_41 : decode cX12_inSet 41 = .ok (.iconst 0, 1) := by decide +kernel
theorem dX12_inSet_42 : decode cX12_inSet 42 = .ok (.ireturn, 1) := by decide +kernel
theorem dX12_later_0 : decode cX12_later 0 = .ok (.aload_n 0, 1) := by decide +kernel
theorem dX12_later_1 : decode cX12_later 1 = .ok (.iload_n 1, 1) := by decide +kernel
theorem dX12_later_2 : decode cX12_later 2 = .ok (.invokevirtual 270, 3) := by decide +kernel
theorem dX12_later_5 : decode cX12_later 5 = .ok (.ifCond .eq 20, 3) := by decide +kernel
theorem dX12_later_8 : decode cX12_later 8 = .ok (.aload_n 0, 1) := by decide +kernel
theorem dX12_later_9 : decode cX12_later 9 = .ok (.iload_n 2, 1) := by decide +kernel
theorem dX12_later_10 : decode cX12_later 10 = .ok (.invokevirtual 264, 3) := by decide +kernel
theorem dX12_later_13 : decode cX12_later 13 = .ok (.ifCond .eq 12, 3) := by decide +kernel
theorem dX12_later_16 : decode cX12_later 16 = .ok (.aload_n 0, 1) := by decide +kernel
theorem dX12_later_17 : decode cX12_later 17 = .ok (.iload_n 1, 1) := by decide +kernel
theorem dX12_later_18 : decode cX12_later 18 = .ok (.iload_n 2, 1) := by decide +kernel
theorem dX12_later_19 : decode cX12_later 19 = .ok (.invokevirtual 276, 3) := by decide +kernel
theorem dX12_later_22 : decode cX12_later 22 = .ok (.goto 8, 3) := by decide +kernel
theorem dX12_later_25 : decode cX12_later 25 = .ok (.aload_n 0, 1) := by decide +kernel
theorem dX12_later_26 : decode cX12_later 26 = .ok (.iconst (-1), 1) := by decide +kernel
theorem dX12_later_27 : decode cX12_later 27 = .ok (.invokevirtual 113, 3) := by decide +kernel
theorem dX12_later_30 : decode cX12_later 30 = .ok (.ireturn, 1) := by decide +kernel
theorem dX12_cost_0 : decode cX12_cost 0 = .ok (.aload_n 0, 1) := by decide +kernel
theorem dX12_cost_1 : decode cX12_cost 1 = .ok (.iload_n 1, 1) := by decide +kernel
theorem dX12_cost_2 : decode cX12_cost 2 = .ok (.invokevirtual 270, 3) := by decide +kernel
theorem dX12_cost_5 : decode cX12_cost 5 = .ok (.ifCond .eq 11, 3) := by decide +kernel
theorem dX12_cost_8 : decode cX12_cost 8 = .ok (.aload_n 0, 1) := by decide +kernel
theorem dX12_cost_9 : decode cX12_cost 9 = .ok (.iload_n 2, 1) := by decide +kernel
theorem dX12_cost_10 : decode cX12_cost 10 = .ok (.invokevirtual 264, 3) := by decide +kernel
theorem dX12_cost_13 : decode cX12_cost 13 = .ok (.ifCond .ne 9, 3) := by decide +kernel
theorem dX12_cost_16 : decode cX12_cost 16 = .ok (.aload_n 0, 1) := by decide +kernel
theorem dX12_cost_17 : decode cX12_cost 17 = .ok (.iconst (-1), 1) := by decide +kernel
theorem dX12_cost_18 : decode cX12_cost 18 = .ok (.invokevirtual 113, 3) := by decide +kernel
theorem dX12_cost_21 : decode cX12_cost 21 = .ok (.ireturn, 1) := by decide +kernel
theorem dX12_cost_22 : decode cX12_cost 22 = .ok (.aload_n 0, 1) := by decide +kernel
theorem dX12_cost_23 : decode cX12_cost 23 = .ok (.invokevirtual 282, 3) := by decide +kernel
theorem dX12_cost_26 : decode cX12_cost 26 = .ok (.aload_n 0, 1) := by decide +kernel
theorem dX12_cost_27 : decode cX12_cost 27 = .ok (.getfield 62, 3) := by decide +kernel
theorem dX12_cost_30 : decode cX12_cost 30 = .ok (.bipush 16, 2) := by decide +kernel
theorem dX12_cost_32 : decode cX12_cost 32 = .ok (.iload_n 1, 1) := by decide +kernel
theorem dX12_cost_33 : decode cX12_cost 33 = .ok (.imul, 1) := by decide +kernel
theorem dX12_cost_34 : decode cX12_cost 34 = .ok (.iload_n 2, 1) := by decide +kernel
theorem dX12_cost_35 : decode cX12_cost 35 = .ok (.iadd, 1) := by decide +kernel
theorem dX12_cost_36 : decode cX12_cost 36 = .ok (.iaload, 1) := by decide +kernel
theorem dX12_cost_37 : decode cX12_cost 37 = .ok (.ireturn, 1) := by decide +kernel
theorem dX12_worstOf_0 : decode cX12_worstOf 0 = .ok (.aload_n 0, 1) := by decide +kernel
theorem dX12_worstOf_1 : decode cX12_worstOf 1 = .ok (.bipush (-9), 2) := by decide +kernel
theorem dX12_worstOf_3 : decode cX12_worstOf 3 = .ok (.putfield 285, 3) := by decide +kernel
theorem dX12_worstOf_6 : decode cX12_worstOf 6 = .ok (.iconst 0, 1) := by decide +kernel
theorem dX12_worstOf_7 : decode cX12_worstOf 7 = .ok (.istore 4, 2) := by decide +kernel
theorem dX12_worstOf_9 : decode cX12_worstOf 9 = .ok (.iload 4, 2) := by decide +kernel
theorem dX12_worstOf_11 : decode cX12_worstOf 11 = .ok (.bipush 16, 2) := by decide +kernel
theorem dX12_worstOf_13 : decode cX12_worstOf 13 = .ok (.if_icmp .ge 70, 3) := by decide +kernel
theorem dX12_worstOf_16 : decode cX12_worstOf 16 = .ok (.aload_n 0, 1) := by decide +kernel
theorem dX12_worstOf_17 : decode cX12_worstOf 17 = .ok (.getfield 65, 3) := by decide +kernel
theorem dX12_worstOf_20 : decode cX12_worstOf 20 = .ok (.iload 4, 2) := by decide +kernel
theorem dX12_worstOf_22 : decode cX12_worstOf 22 = .ok (.baload, 1) := by decide +kernel
theorem dX12_worstOf_23 : decode cX12_worstOf 23 = .ok (.ifCond .eq 54, 3) := by decide +kernel
theorem dX12_worstOf_26 : decode cX12_worstOf 26 = .ok (.iload 4, 2) := by decide +kernel
theorem dX12_worstOf_28 : decode cX12_worstOf 28 = .ok (.iload_n 3, 1) := by decide +kernel
theorem dX12_worstOf_29 : decode cX12_worstOf 29 = .ok (.ixor, 1) := by decide +kernel
theorem dX12_worstOf_30 : decode cX12_worstOf 30 = .ok (.iload_n 2, 1) := by decide +kernel
theorem dX12_worstOf_31 : decode cX12_worstOf 31 = .ok (.iand, 1) := by decide +kernel
theorem dX12_worstOf_32 : decode cX12_worstOf 32 = .ok (.ifCond .ne 45, 3) := by decide +kernel
theorem dX12_worstOf_35 : decode cX12_worstOf 35 = .ok (.aload_n 0, 1) := by decide +kernel
theorem dX12_worstOf_36 : decode cX12_worstOf 36 = .ok (.getfield 285, 3) := by decide +kernel
theorem dX12_worstOf_39 : decode cX12_worstOf 39 = .ok (.ifCond .lt 32, 3) := by decide +kernel
theorem dX12_worstOf_42 : decode cX12_worstOf 42 = .ok (.aload_n 0, 1) := by decide +kernel
theorem dX12_worstOf_43 : decode cX12_worstOf 43 = .ok (.getfield 62, 3) := by decide +kernel
theorem dX12_worstOf_46 : decode cX12_worstOf 46 = .ok (.bipush 16, 2) := by decide +kernel
theorem dX12_worstOf_48 : decode cX12_worstOf 48 = .ok (.iload_n 1, 1) := by decide +kernel
theorem dX12_worstOf_49 : decode cX12_worstOf 49 = .ok (.imul, 1) := by decide +kernel
theorem dX12_worstOf_50 : decode cX12_worstOf 50 = .ok (.iload 4, 2) := by decide +kernel
theorem dX12_worstOf_52 : decode cX12_worstOf 52 = .ok (.iadd, 1) := by decide +kernel
theorem dX12_worstOf_53 : decode cX12_worstOf 53 = .ok (.iaload, 1) := by decide +kernel
theorem dX12_worstOf_54 : decode cX12_worstOf 54 = .ok (.aload_n 0, 1) := by decide +kernel
theorem dX12_worstOf_55 : decode cX12_worstOf 55 = .ok (.getfield 62, 3) := by decide +kernel
theorem dX12_worstOf_58 : decode cX12_worstOf 58 = .ok (.bipush 16, 2) := by decide +kernel
theorem dX12_worstOf_60 : decode cX12_worstOf 60 = .ok (.iload_n 1, 1) := by decide +kernel
theorem dX12_worstOf_61 : decode cX12_worstOf 61 = .ok (.imul, 1) := by decide +kernel
theorem dX12_worstOf_62 : decode cX12_worstOf 62 = .ok (.aload_n 0, 1) := by decide +kernel
theorem dX12_worstOf_63 : decode cX12_worstOf 63 = .ok (.getfield 285, 3) := by decide +kernel
theorem dX12_worstOf_66 : decode cX12_worstOf 66 = .ok (.iadd, 1) := by decide +kernel
theorem dX12_worstOf_67 : decode cX12_worstOf 67 = .ok (.iaload, 1) := by decide +kernel
theorem dX12_worstOf_68 : decode cX12_worstOf 68 = .ok (.if_icmp .le 9, 3) := by decide +kernel
theorem dX12_worstOf_71 : decode cX12_worstOf 71 = .ok (.aload_n 0, 1) := by decide +kernel
theorem dX12_worstOf_72 : decode cX12_worstOf 72 = .ok (.iload 4, 2) := by decide +kernel
theorem dX12_worstOf_74 : decode cX12_worstOf 74 = .ok (.putfield 285, 3) := by decide +kernel
theorem dX12_worstOf_77 : decode cX12_worstOf 77 = .ok (.iinc 4 1, 3) := by decide +kernel
theorem dX12_worstOf_80 : decode cX12_worstOf 80 = .ok (.goto (-71), 3) := by decide +kernel
theorem dX12_worstOf_83 : decode cX12_worstOf 83 = .ok (.aload_n 0, 1) := by decide +kernel
theorem dX12_worstOf_84 : decode cX12_worstOf 84 = .ok (.getfield 285, 3) := by decide +kernel
theorem dX12_worstOf_87 : decode cX12_worstOf 87 = .ok (.ifCond .ge 8, 3) := by decide +kernel
theorem dX12_worstOf_90 : decode cX12_worstOf 90 = .ok (.bipush (-9), 2) := by decide +kernel
theorem dX12_worstOf_92 : decode cX12_worstOf 92 = .ok (.goto 17, 3) := by decide +kernel
theorem dX12_worstOf_95 : decode cX12_worstOf 95 = .ok (.aload_n 0, 1) := by decide +kernel
theorem dX12_worstOf_96 : decode cX12_worstOf 96 = .ok (.getfield 62, 3) := by decide +kernel
theorem dX12_worstOf_99 : decode cX12_worstOf 99 = .ok (.bipush 16, 2) := by decide +kernel
theorem dX12_worstOf_101 : decode cX12_worstOf 101 = .ok (.iload_n 1, 1) := by decide +kernel
theorem dX12_worstOf_102 : decode cX12_worstOf 102 = .ok (.imul, 1) := by decide +kernel
theorem dX12_worstOf_103 : decode cX12_worstOf 103 = .ok (.aload_n 0, 1) := by decide +kernel
theorem dX12_worstOf_104 : decode cX12_worstOf 104 = .ok (.getfield 285, 3) := by decide +kernel
theorem dX12_worstOf_107 : decode cX12_worstOf 107 = .ok (.iadd, 1) := by decide +kernel
theorem dX12_worstOf_108 : decode cX12_worstOf 108 = .ok (.iaload, 1) := by decide +kernel
theorem dX12_worstOf_109 : decode cX12_worstOf 109 = .ok (.ireturn, 1) := by decide +kernel
theorem dX12_worst_0 : decode cX12_worst 0 = .ok (.aload_n 0, 1) := by decide +kernel
theorem dX12_worst_1 : decode cX12_worst 1 = .ok (.iload_n 1, 1) := by decide +kernel
theorem dX12_worst_2 : decode cX12_worst 2 = .ok (.invokevirtual 270, 3) := by decide +kernel
theorem dX12_worst_5 : decode cX12_worst 5 = .ok (.ifCond .ne 9, 3) := by decide +kernel
theorem dX12_worst_8 : decode cX12_worst 8 = .ok (.aload_n 0, 1) := by decide +kernel
theorem dX12_worst_9 : decode cX12_worst 9 = .ok (.iconst (-1), 1) := by decide +kernel
theorem dX12_worst_10 : decode cX12_worst 10 = .ok (.invokevirtual 113, 3) := by decide +kernel
theorem dX12_worst_13 : decode cX12_worst 13 = .ok (.ireturn, 1) := by decide +kernel
theorem dX12_worst_14 : decode cX12_worst 14 = .ok (.iload_n 2, 1) := by decide +kernel
theorem dX12_worst_15 : decode cX12_worst 15 = .ok (.i2l, 1) := by decide +kernel
theorem dX12_worst_16 : decode cX12_worst 16 = .ok (.lconst 0, 1) := by decide +kernel
theorem dX12_worst_17 : decode cX12_worst 17 = .ok (.lconst 1, 1) := by decide +kernel
theorem dX12_worst_18 : decode cX12_worst 18 = .ok (.invokestatic 109, 3) := by decide +kernel
theorem dX12_worst_21 : decode cX12_worst 21 = .ok (.ifCond .ne 10, 3) := by decide +kernel
theorem dX12_worst_24 : decode cX12_worst 24 = .ok (.aload_n 0, 1) := by decide +kernel
theorem dX12_worst_25 : decode cX12_worst 25 = .ok (.bipush (-2), 2) := by decide +kernel
theorem dX12_worst_27 : decode cX12_worst 27 = .ok (.invokevirtual 113, 3) := by decide +kernel
theorem dX12_worst_30 : decode cX12_worst 30 = .ok (.ireturn, 1) := by decide +kernel
theorem dX12_worst_31 : decode cX12_worst 31 = .ok (.aload_n 0, 1) := by decide +kernel
theorem dX12_worst_32 : decode cX12_worst 32 = .ok (.invokevirtual 282, 3) := by decide +kernel
theorem dX12_worst_35 : decode cX12_worst 35 = .ok (.aload_n 0, 1) := by decide +kernel
theorem dX12_worst_36 : decode cX12_worst 36 = .ok (.iload_n 1, 1) := by decide +kernel
theorem dX12_worst_37 : decode cX12_worst 37 = .ok (.iconst 0, 1) := by decide +kernel
theorem dX12_worst_38 : decode cX12_worst 38 = .ok (.iconst 0, 1) := by decide +kernel
theorem dX12_worst_39 : decode cX12_worst 39 = .ok (.invokevirtual 288, 3) := by decide +kernel
theorem dX12_worst_42 : decode cX12_worst 42 = .ok (.istore_n 3, 1) := by decide +kernel
theorem dX12_worst_43 : decode cX12_worst 43 = .ok (.iload_n 2, 1) := by decide +kernel
theorem dX12_worst_44 : decode cX12_worst 44 = .ok (.ifCond .ne 7, 3) := by decide +kernel
theorem dX12_worst_47 : decode cX12_worst 47 = .ok (.iload_n 3, 1) := by decide +kernel
theorem dX12_worst_48 : decode cX12_worst 48 = .ok (.goto 7, 3) := by decide +kernel
theorem dX12_worst_51 : decode cX12_worst 51 = .ok (.aload_n 0, 1) := by decide +kernel
theorem dX12_worst_52 : decode cX12_worst 52 = .ok (.getfield 285, 3) := by decide +kernel
theorem dX12_worst_55 : decode cX12_worst 55 = .ok (.ireturn, 1) := by decide +kernel
theorem dX12_bestOf_0 : decode cX12_bestOf 0 = .ok (.aload_n 0, 1) := by decide +kernel
theorem dX12_bestOf_1 : decode cX12_bestOf 1 = .ok (.bipush (-9), 2) := by decide +kernel
theorem dX12_bestOf_3 : decode cX12_bestOf 3 = .ok (.putfield 292, 3) := by decide +kernel
theorem dX12_bestOf_6 : decode cX12_bestOf 6 = .ok (.bipush (-9), 2) := by decide +kernel
theorem dX12_bestOf_8 : decode cX12_bestOf 8 = .ok (.istore_n 3, 1) := by decide +kernel
theorem dX12_bestOf_9 : decode cX12_bestOf 9 = .ok (.iconst 0, 1) := by decide +kernel
theorem dX12_bestOf_10 : decode cX12_bestOf 10 = .ok (.istore 4, 2) := by decide +kernel
theorem dX12_bestOf_12 : decode cX12_bestOf 12 = .ok (.iload 4, 2) := by decide +kernel
theorem dX12_bestOf_14 : decode cX12_bestOf 14 = .ok (.sipush 256, 3) := by decide +kernel
theorem dX12_bestOf_17 : decode cX12_bestOf 17 = .ok (.if_icmp .ge 64, 3) := by decide +kernel
theorem dX12_bestOf_20 : decode cX12_bestOf 20 = .ok (.aload_n 0, 1) := by decide +kernel
theorem dX12_bestOf_21 : decode cX12_bestOf 21 = .ok (.getfield 68, 3) := by decide +kernel
theorem dX12_bestOf_24 : decode cX12_bestOf 24 = .ok (.iload 4, 2) := by decide +kernel
theorem dX12_bestOf_26 : decode cX12_bestOf 26 = .ok (.baload, 1) := by decide +kernel
theorem dX12_bestOf_27 : decode cX12_bestOf 27 = .ok (.ifCond .ne 6, 3) := by decide +kernel
theorem dX12_bestOf_30 : decode cX12_bestOf 30 = .ok (.goto 45, 3) := by decide +kernel
theorem dX12_bestOf_33 : decode cX12_bestOf 33 = .ok (.aload_n 0, 1) := by decide +kernel
theorem dX12_bestOf_34 : decode cX12_bestOf 34 = .ok (.iload 4, 2) := by decide +kernel
theorem dX12_bestOf_36 : decode cX12_bestOf 36 = .ok (.iload_n 1, 1) := by decide +kernel
theorem dX12_bestOf_37 : decode cX12_bestOf 37 = .ok (.iload_n 2, 1) := by decide +kernel
theorem dX12_bestOf_38 : decode cX12_bestOf 38 = .ok (.invokevirtual 288, 3) := by decide +kernel
theorem dX12_bestOf_41 : decode cX12_bestOf 41 = .ok (.istore 5, 2) := by decide +kernel
theorem dX12_bestOf_43 : decode cX12_bestOf 43 = .ok (.iload 5, 2) := by decide +kernel
theorem dX12_bestOf_45 : decode cX12_bestOf 45 = .ok (.bipush (-9), 2) := by decide +kernel
theorem dX12_bestOf_47 : decode cX12_bestOf 47 = .ok (.if_icmp .eq 28, 3) := by decide +kernel
theorem dX12_bestOf_50 : decode cX12_bestOf 50 = .ok (.aload_n 0, 1) := by decide +kernel
theorem dX12_bestOf_51 : decode cX12_bestOf 51 = .ok (.getfield 292, 3) := by decide +kernel
theorem dX12_bestOf_54 : decode cX12_bestOf 54 = .ok (.ifCond .lt 12, 3) := by decide +kernel
theorem dX12_bestOf_57 : decode cX12_bestOf 57 = .ok (.iload 5, 2) := by decide +kernel
theorem dX12_bestOf_59 : decode cX12_bestOf 59 = .ok (.iload_n 3, 1) := by decide +kernel
theorem dX12_bestOf_60 : decode cX12_bestOf 60 = .ok (.if_icmp .lt 6, 3) := by decide +kernel
theorem dX12_bestOf_63 : decode cX12_bestOf 63 = .ok (.goto 12, 3) := by decide +kernel
theorem dX12_bestOf_66 : decode cX12_bestOf 66 = .ok (.aload_n 0, 1) := by decide +kernel
theorem dX12_bestOf_67 : decode cX12_bestOf 67 = .ok (.iload 4, 2) := by decide +kernel
theorem dX12_bestOf_69 : decode cX12_bestOf 69 = .ok (.putfield 292, 3) := by decide +kernel
theorem dX12_bestOf_72 : decode cX12_bestOf 72 = .ok (.iload 5, 2) := by decide +kernel
theorem dX12_bestOf_74 : decode cX12_bestOf 74 = .ok (.istore_n 3, 1) := by decide +kernel
theorem dX12_bestOf_75 : decode cX12_bestOf 75 = .ok (.iinc 4 1, 3) := by decide +kernel
theorem dX12_bestOf_78 : decode cX12_bestOf 78 = .ok (.goto (-66), 3) := by decide +kernel
theorem dX12_bestOf_81 : decode cX12_bestOf 81 = .ok (.iload_n 3, 1) := by decide +kernel
theorem dX12_bestOf_82 : decode cX12_bestOf 82 = .ok (.ireturn, 1) := by decide +kernel
theorem dX12_best_0 : decode cX12_best 0 = .ok (.iload_n 1, 1) := by decide +kernel
theorem dX12_best_1 : decode cX12_best 1 = .ok (.i2l, 1) := by decide +kernel
theorem dX12_best_2 : decode cX12_best 2 = .ok (.lconst 0, 1) := by decide +kernel
theorem dX12_best_3 : decode cX12_best 3 = .ok (.lconst 1, 1) := by decide +kernel
theorem dX12_best_4 : decode cX12_best 4 = .ok (.invokestatic 109, 3) := by decide +kernel
theorem dX12_best_7 : decode cX12_best 7 = .ok (.ifCond .ne 10, 3) := by decide +kernel
theorem dX12_best_10 : decode cX12_best 10 = .ok (.aload_n 0, 1) := by decide +kernel
theorem dX12_best_11 : decode cX12_best 11 = .ok (.bipush (-2), 2) := by decide +kernel
theorem dX12_best_13 : decode cX12_best 13 = .ok (.invokevirtual 113, 3) := by decide +kernel
theorem dX12_best_16 : decode cX12_best 16 = .ok (.ireturn, 1) := by decide +kernel
theorem dX12_best_17 : decode cX12_best 17 = .ok (.aload_n 0, 1) := by decide +kernel
theorem dX12_best_18 : decode cX12_best 18 = .ok (.invokevirtual 282, 3) := by decide +kernel
theorem dX12_best_21 : decode cX12_best 21 = .ok (.aload_n 0, 1) := by decide +kernel
theorem dX12_best_22 : decode cX12_best 22 = .ok (.iconst 0, 1) := by decide +kernel
theorem dX12_best_23 : decode cX12_best 23 = .ok (.iconst 0, 1) := by decide +kernel
theorem dX12_best_24 : decode cX12_best 24 = .ok (.invokevirtual 295, 3) := by decide +kernel
theorem dX12_best_27 : decode cX12_best 27 = .ok (.istore_n 2, 1) := by decide +kernel
theorem dX12_best_28 : decode cX12_best 28 = .ok (.iload_n 1, 1) := by decide +kernel
theorem dX12_best_29 : decode cX12_best 29 = .ok (.ifCond .ne 10, 3) := by decide +kernel
theorem dX12_best_32 : decode cX12_best 32 = .ok (.aload_n 0, 1) := by decide +kernel
theorem dX12_best_33 : decode cX12_best 33 = .ok (.getfield 292, 3) := by decide +kernel
theorem dX12_best_36 : decode cX12_best 36 = .ok (.goto 4, 3) := by decide +kernel
theorem dX12_best_39 : decode cX12_best 39 = .ok (.iload_n 2, 1) := by decide +kernel
theorem dX12_best_40 : decode cX12_best 40 = .ok (.ireturn, 1) := by decide +kernel
theorem dX12_leftOf_0 : decode cX12_leftOf 0 = .ok (.aload_n 0, 1) := by decide +kernel
theorem dX12_leftOf_1 : decode cX12_leftOf 1 = .ok (.getfield 56, 3) := by decide +kernel
theorem dX12_leftOf_4 : decode cX12_leftOf 4 = .ok (.iload_n 3, 1) := by decide +kernel
theorem dX12_leftOf_5 : decode cX12_leftOf 5 = .ok (.iaload, 1) := by decide +kernel
theorem dX12_leftOf_6 : decode cX12_leftOf 6 = .ok (.aload_n 0, 1) := by decide +kernel
theorem dX12_leftOf_7 : decode cX12_leftOf 7 = .ok (.iload_n 1, 1) := by decide +kernel
theorem dX12_leftOf_8 : decode cX12_leftOf 8 = .ok (.iload_n 2, 1) := by decide +kernel
theorem dX12_leftOf_9 : decode cX12_leftOf 9 = .ok (.iload_n 3, 1) := by decide +kernel
theorem dX12_leftOf_10 : decode cX12_leftOf 10 = .ok (.invokevirtual 298, 3) := by decide +kernel
theorem dX12_leftOf_13 : decode cX12_leftOf 13 = .ok (.isub, 1) := by decide +kernel
theorem dX12_leftOf_14 : decode cX12_leftOf 14 = .ok (.istore 4, 2) := by decide +kernel
theorem dX12_leftOf_16 : decode cX12_leftOf 16 = .ok (.iload 4, 2) := by decide +kernel
theorem dX12_leftOf_18 : decode cX12_leftOf 18 = .ok (.ifCond .le 8, 3) := by decide +kernel
theorem dX12_leftOf_21 : decode cX12_leftOf 21 = .ok (.iload 4, 2) := by decide +kernel
theorem dX12_leftOf_23 : decode cX12_leftOf 23 = .ok (.goto 4, 3) := by decide +kernel
theorem dX12_leftOf_26 : decode cX12_leftOf 26 = .ok (.iconst 0, 1) := by decide +kernel
theorem dX12_leftOf_27 : decode cX12_leftOf 27 = .ok (.ireturn, 1) := by decide +kernel
theorem dX12_hadOf_0 : decode cX12_hadOf 0 = .ok (.aload_n 0, 1) := by decide +kernel
theorem dX12_hadOf_1 : decode cX12_hadOf 1 = .ok (.iload_n 3, 1) := by decide +kernel
theorem dX12_hadOf_2 : decode cX12_hadOf 2 = .ok (.invokevirtual 117, 3) := by decide +kernel
theorem dX12_hadOf_5 : decode cX12_hadOf 5 = .ok (.ifCond .eq 12, 3) := by decide +kernel
theorem dX12_hadOf_8 : decode cX12_hadOf 8 = .ok (.aload_n 0, 1) := by decide +kernel
theorem dX12_hadOf_9 : decode cX12_hadOf 9 = .ok (.getfield 44, 3) := by decide +kernel
theorem dX12_hadOf_12 : decode cX12_hadOf 12 = .ok (.iload_n 3, 1) := by decide +kernel
theorem dX12_hadOf_13 : decode cX12_hadOf 13 = .ok (.baload, 1) := by decide +kernel
theorem dX12_hadOf_14 : decode cX12_hadOf 14 = .ok (.ifCond .ne 5, 3) := by decide +kernel
theorem dX12_hadOf_17 : decode cX12_hadOf 17 = .ok (.iconst 0, 1) := by decide +kernel
theorem dX12_hadOf_18 : decode cX12_hadOf 18 = .ok (.ireturn, 1) := by decide +kernel
theorem dX12_hadOf_19 : decode cX12_hadOf 19 = .ok (.aload_n 0, 1) := by decide +kernel
theorem dX12_hadOf_20 : decode cX12_hadOf 20 = .ok (.iload_n 3, 1) := by decide +kernel
theorem dX12_hadOf_21 : decode cX12_hadOf 21 = .ok (.iload_n 1, 1) := by decide +kernel
theorem dX12_hadOf_22 : decode cX12_hadOf 22 = .ok (.iload_n 2, 1) := by decide +kernel
theorem dX12_hadOf_23 : decode cX12_hadOf 23 = .ok (.invokevirtual 301, 3) := by decide +kernel
theorem dX12_hadOf_26 : decode cX12_hadOf 26 = .ok (.istore 4, 2) := by decide +kernel
theorem dX12_hadOf_28 : decode cX12_hadOf 28 = .ok (.iload 4, 2) := by decide +kernel
theorem dX12_hadOf_30 : decode cX12_hadOf 30 = .ok (.ifCond .ge 7, 3) := by decide +kernel
theorem dX12_hadOf_33 : decode cX12_hadOf 33 = .ok (.iconst 0, 1) := by decide +kernel
theorem dX12_hadOf_34 : decode cX12_hadOf 34 = .ok (.goto 35, 3) := by decide +kernel
theorem dX12_hadOf_37 : decode cX12_hadOf 37 = .ok (.iload 4, 2) := by decide +kernel
theorem dX12_hadOf_39 : decode cX12_hadOf 39 = .ok (.aload_n 0, 1) := by decide +kernel
theorem dX12_hadOf_40 : decode cX12_hadOf 40 = .ok (.getfield 13, 3) := by decide +kernel
theorem dX12_hadOf_43 : decode cX12_hadOf 43 = .ok (.bipush 6, 2) := by decide +kernel
theorem dX12_hadOf_45 : decode cX12_hadOf 45 = .ok (.iload_n 3, 1) := by decide +kernel
theorem dX12_hadOf_46 : decode cX12_hadOf 46 = .ok (.imul, 1) := by decide +kernel
theorem dX12_hadOf_47 : decode cX12_hadOf 47 = .ok (.iconst 4, 1) := by decide +kernel
theorem dX12_hadOf_48 : decode cX12_hadOf 48 = .ok (.iadd, 1) := by decide +kernel
theorem dX12_hadOf_49 : decode cX12_hadOf 49 = .ok (.iaload, 1) := by decide +kernel
theorem dX12_hadOf_50 : decode cX12_hadOf 50 = .ok (.if_icmp .le 17, 3) := by decide +kernel
theorem dX12_hadOf_53 : decode cX12_hadOf 53 = .ok (.aload_n 0, 1) := by decide +kernel
theorem dX12_hadOf_54 : decode cX12_hadOf 54 = .ok (.getfield 13, 3) := by decide +kernel
theorem dX12_hadOf_57 : decode cX12_hadOf 57 = .ok (.bipush 6, 2) := by decide +kernel
theorem dX12_hadOf_59 : decode cX12_hadOf 59 = .ok (.iload_n 3, 1) := by decide +kernel
theorem dX12_hadOf_60 : decode cX12_hadOf 60 = .ok (.imul, 1) := by decide +kernel
theorem dX12_hadOf_61 : decode cX12_hadOf 61 = .ok (.iconst 4, 1) := by decide +kernel
theorem dX12_hadOf_62 : decode cX12_hadOf 62 = .ok (.iadd, 1) := by decide +kernel
theorem dX12_hadOf_63 : decode cX12_hadOf 63 = .ok (.iaload, 1) := by decide +kernel
theorem dX12_hadOf_64 : decode cX12_hadOf 64 = .ok (.goto 5, 3) := by decide +kernel
theorem dX12_hadOf_67 : decode cX12_hadOf 67 = .ok (.iload 4, 2) := by decide +kernel
theorem dX12_hadOf_69 : decode cX12_hadOf 69 = .ok (.ireturn, 1) := by decide +kernel
theorem dX12_byRulesOf_0 : decode cX12_byRulesOf 0 = .ok (.aload_n 0, 1) := by decide +kernel
theorem dX12_byRulesOf_1 : decode cX12_byRulesOf 1 = .ok (.iload_n 1, 1) := by decide +kernel
theorem dX12_byRulesOf_2 : decode cX12_byRulesOf 2 = .ok (.invokevirtual 273, 3) := by decide +kernel
theorem dX12_byRulesOf_5 : decode cX12_byRulesOf 5 = .ok (.istore_n 3, 1) := by decide +kernel
theorem dX12_byRulesOf_6 : decode cX12_byRulesOf 6 = .ok (.aload_n 0, 1) := by decide +kernel
theorem dX12_byRulesOf_7 : decode cX12_byRulesOf 7 = .ok (.iload_n 1, 1) := by decide +kernel
theorem dX12_byRulesOf_8 : decode cX12_byRulesOf 8 = .ok (.iload_n 2, 1) := by decide +kernel
theorem dX12_byRulesOf_9 : decode cX12_byRulesOf 9 = .ok (.invokevirtual 244, 3) := by decide +kernel
theorem dX12_byRulesOf_12 : decode cX12_byRulesOf 12 = .ok (.iconst 0, 1) := by decide +kernel
theorem dX12_byRulesOf_13 : decode cX12_byRulesOf 13 = .ok (.istore 4, 2) := by decide +kernel
theorem dX12_byRulesOf_15 : decode cX12_byRulesOf 15 = .ok (.iload 4, 2) := by decide +kernel
theorem dX12_byRulesOf_17 : decode cX12_byRulesOf 17 = .ok (.iconst 4, 1) := by decide +kernel
theorem dX12_byRulesOf_18 : decode cX12_byRulesOf 18 = .ok (.if_icmp .ge 50, 3) := by decide +kernel
theorem dX12_byRulesOf_21 : decode cX12_byRulesOf 21 = .ok (.iload_n 3, 1) := by decide +kernel
theorem dX12_byRulesOf_22 : decode cX12_byRulesOf 22 = .ok (.aload_n 0, 1) := by decide +kernel
theorem dX12_byRulesOf_23 : decode cX12_byRulesOf 23 = .ok (.iload_n 1, 1) := by decide +kernel
theorem dX12_byRulesOf_24 : decode cX12_byRulesOf 24 = .ok (.iload_n 2, 1) := by decide +kernel
theorem dX12_byRulesOf_25 : decode cX12_byRulesOf 25 = .ok (.iload 4, 2) := by decide +kernel
theorem dX12_byRulesOf_27 : decode cX12_byRulesOf 27 = .ok (.invokevirtual 298, 3) := by decide +kernel
theorem dX12_byRulesOf_30 : decode cX12_byRulesOf 30 = .ok (.aload_n 0, 1) := by decide +kernel
theorem dX12_byRulesOf_31 : decode cX12_byRulesOf 31 = .ok (.getfield 13, 3) := by decide +kernel
theorem dX12_byRulesOf_34 : decode cX12_byRulesOf 34 = .ok (.bipush 6, 2) := by decide +kernel
theorem dX12_byRulesOf_36 : decode cX12_byRulesOf 36 = .ok (.iload 4, 2) := by decide +kernel
theorem dX12_byRulesOf_38 : decode cX12_byRulesOf 38 = .ok (.imul, 1) := by decide +kernel
theorem dX12_byRulesOf_39 : decode cX12_byRulesOf 39 = .ok (.iconst 3, 1) := by decide +kernel
theorem dX12_byRulesOf_40 : decode cX12_byRulesOf 40 = .ok (.iadd, 1) := by decide +kernel
theorem dX12_byRulesOf_41 : decode cX12_byRulesOf 41 = .ok (.iaload, 1) := by decide +kernel
theorem dX12_byRulesOf_42 : decode cX12_byRulesOf 42 = .ok (.imul, 1) := by decide +kernel
theorem dX12_byRulesOf_43 : decode cX12_byRulesOf 43 = .ok (.aload_n 0, 1) := by decide +kernel
theorem dX12_byRulesOf_44 : decode cX12_byRulesOf 44 = .ok (.iload_n 1, 1) := by decide +kernel
theorem dX12_byRulesOf_45 : decode cX12_byRulesOf 45 = .ok (.iload_n 2, 1) := by decide +kernel
theorem dX12_byRulesOf_46 : decode cX12_byRulesOf 46 = .ok (.iload 4, 2) := by decide +kernel
theorem dX12_byRulesOf_48 : decode cX12_byRulesOf 48 = .ok (.invokevirtual 304, 3) := by decide +kernel
theorem dX12_byRulesOf_51 : decode cX12_byRulesOf 51 = .ok (.aload_n 0, 1) := by decide +kernel
theorem dX12_byRulesOf_52 : decode cX12_byRulesOf 52 = .ok (.getfield 13, 3) := by decide +kernel
theorem dX12_byRulesOf_55 : decode cX12_byRulesOf 55 = .ok (.bipush 41, 2) := by decide +kernel
theorem dX12_byRulesOf_57 : decode cX12_byRulesOf 57 = .ok (.iaload, 1) := by decide +kernel
theorem dX12_byRulesOf_58 : decode cX12_byRulesOf 58 = .ok (.imul, 1) := by decide +kernel
theorem dX12_byRulesOf_59 : decode cX12_byRulesOf 59 = .ok (.iadd, 1) := by decide +kernel
theorem dX12_byRulesOf_60 : decode cX12_byRulesOf 60 = .ok (.iadd, 1) := by decide +kernel
theorem dX12_byRulesOf_61 : decode cX12_byRulesOf 61 = .ok (.istore_n 3, 1) := by decide +kernel
theorem dX12_byRulesOf_62 : decode cX12_byRulesOf 62 = .ok (.iinc 4 1, 3) := by decide +kernel
theorem dX12_byRulesOf_65 : decode cX12_byRulesOf 65 = .ok (.goto (-50), 3) := by decide +kernel
theorem dX12_byRulesOf_68 : decode cX12_byRulesOf 68 = .ok (.iload_n 3, 1) := by decide +kernel
theorem dX12_byRulesOf_69 : decode cX12_byRulesOf 69 = .ok (.ireturn, 1) := by decide +kernel
theorem dX12_byRules_0 : decode cX12_byRules 0 = .ok (.aload_n 0, 1) := by decide +kernel
theorem dX12_byRules_1 : decode cX12_byRules 1 = .ok (.iload_n 1, 1) := by decide +kernel
theorem dX12_byRules_2 : decode cX12_byRules 2 = .ok (.invokevirtual 270, 3) := by decide +kernel
theorem dX12_byRules_5 : decode cX12_byRules 5 = .ok (.ifCond .eq 20, 3) := by decide +kernel
theorem dX12_byRules_8 : decode cX12_byRules 8 = .ok (.aload_n 0, 1) := by decide +kernel
theorem dX12_byRules_9 : decode cX12_byRules 9 = .ok (.iload_n 2, 1) := by decide +kernel
theorem dX12_byRules_10 : decode cX12_byRules 10 = .ok (.invokevirtual 264, 3) := by decide +kernel
theorem dX12_byRules_13 : decode cX12_byRules 13 = .ok (.ifCond .eq 12, 3) := by decide +kernel
theorem dX12_byRules_16 : decode cX12_byRules 16 = .ok (.aload_n 0, 1) := by decide +kernel
theorem dX12_byRules_17 : decode cX12_byRules 17 = .ok (.iload_n 1, 1) := by decide +kernel
theorem dX12_byRules_18 : decode cX12_byRules 18 = .ok (.iload_n 2, 1) := by decide +kernel
theorem dX12_byRules_19 : decode cX12_byRules 19 = .ok (.invokevirtual 307, 3) := by decide +kernel
theorem dX12_byRules_22 : decode cX12_byRules 22 = .ok (.goto 8, 3) := by decide +kernel
theorem dX12_byRules_25 : decode cX12_byRules 25 = .ok (.aload_n 0, 1) := by decide +kernel
theorem dX12_byRules_26 : decode cX12_byRules 26 = .ok (.iconst (-1), 1) := by decide +kernel
theorem dX12_byRules_27 : decode cX12_byRules 27 = .ok (.invokevirtual 113, 3) := by decide +kernel
theorem dX12_byRules_30 : decode cX12_byRules 30 = .ok (.ireturn, 1) := by decide +kernel
theorem dX12_ruled_0 : decode cX12_ruled 0 = .ok (.aload_n 0, 1) := by decide +kernel
theorem dX12_ruled_1 : decode cX12_ruled 1 = .ok (.iload_n 1, 1) := by decide +kernel
theorem dX12_ruled_2 : decode cX12_ruled 2 = .ok (.invokevirtual 270, 3) := by decide +kernel
theorem dX12_ruled_5 : decode cX12_ruled 5 = .ok (.ifCond .ne 9, 3) := by decide +kernel
theorem dX12_ruled_8 : decode cX12_ruled 8 = .ok (.aload_n 0, 1) := by decide +kernel
theorem dX12_ruled_9 : decode cX12_ruled 9 = .ok (.iconst (-1), 1) := by decide +kernel
theorem dX12_ruled_10 : decode cX12_ruled 10 = .ok (.invokevirtual 113, 3) := by decide +kernel
theorem dX12_ruled_13 : decode cX12_ruled 13 = .ok (.ireturn, 1) := by decide +kernel
theorem dX12_ruled_14 : decode cX12_ruled 14 = .ok (.iload_n 2, 1) := by decide +kernel
theorem dX12_ruled_15 : decode cX12_ruled 15 = .ok (.i2l, 1) := by decide +kernel
theorem dX12_ruled_16 : decode cX12_ruled 16 = .ok (.lconst 0, 1) := by decide +kernel
theorem dX12_ruled_17 : decode cX12_ruled 17 = .ok (.lconst 1, 1) := by decide +kernel
theorem dX12_ruled_18 : decode cX12_ruled 18 = .ok (.invokestatic 109, 3) := by decide +kernel
theorem dX12_ruled_21 : decode cX12_ruled 21 = .ok (.ifCond .ne 10, 3) := by decide +kernel
theorem dX12_ruled_24 : decode cX12_ruled 24 = .ok (.aload_n 0, 1) := by decide +kernel
theorem dX12_ruled_25 : decode cX12_ruled 25 = .ok (.bipush (-2), 2) := by decide +kernel
theorem dX12_ruled_27 : decode cX12_ruled 27 = .ok (.invokevirtual 113, 3) := by decide +kernel
theorem dX12_ruled_30 : decode cX12_ruled 30 = .ok (.ireturn, 1) := by decide +kernel
theorem dX12_ruled_31 : decode cX12_ruled 31 = .ok (.aload_n 0, 1) := by decide +kernel
theorem dX12_ruled_32 : decode cX12_ruled 32 = .ok (.invokevirtual 282, 3) := by decide +kernel
theorem dX12_ruled_35 : decode cX12_ruled 35 = .ok (.bipush (-9), 2) := by decide +kernel
theorem dX12_ruled_37 : decode cX12_ruled 37 = .ok (.istore_n 3, 1) := by decide +kernel
theorem dX12_ruled_38 : decode cX12_ruled 38 = .ok (.iconst 0, 1) := by decide +kernel
theorem dX12_ruled_39 : decode cX12_ruled 39 = .ok (.istore 4, 2) := by decide +kernel
theorem dX12_ruled_41 : decode cX12_ruled 41 = .ok (.iload 4, 2) := by decide +kernel
theorem dX12_ruled_43 : decode cX12_ruled 43 = .ok (.bipush 16, 2) := by decide +kernel
theorem dX12_ruled_45 : decode cX12_ruled 45 = .ok (.if_icmp .ge 38, 3) := by decide +kernel
theorem dX12_ruled_48 : decode cX12_ruled 48 = .ok (.aload_n 0, 1) := by decide +kernel
theorem dX12_ruled_49 : decode cX12_ruled 49 = .ok (.getfield 65, 3) := by decide +kernel
theorem dX12_ruled_52 : decode cX12_ruled 52 = .ok (.iload 4, 2) := by decide +kernel
theorem dX12_ruled_54 : decode cX12_ruled 54 = .ok (.baload, 1) := by decide +kernel
theorem dX12_ruled_55 : decode cX12_ruled 55 = .ok (.ifCond .eq 22, 3) := by decide +kernel
theorem dX12_ruled_58 : decode cX12_ruled 58 = .ok (.aload_n 0, 1) := by decide +kernel
theorem dX12_ruled_59 : decode cX12_ruled 59 = .ok (.iload_n 1, 1) := by decide +kernel
theorem dX12_ruled_60 : decode cX12_ruled 60 = .ok (.iload 4, 2) := by decide +kernel
theorem dX12_ruled_62 : decode cX12_ruled 62 = .ok (.invokevirtual 307, 3) := by decide +kernel
theorem dX12_ruled_65 : decode cX12_ruled 65 = .ok (.iload_n 3, 1) := by decide +kernel
theorem dX12_ruled_66 : decode cX12_ruled 66 = .ok (.if_icmp .le 11, 3) := by decide +kernel
theorem dX12_ruled_69 : decode cX12_ruled 69 = .ok (.aload_n 0, 1) := by decide +kernel
theorem dX12_ruled_70 : decode cX12_ruled 70 = .ok (.iload_n 1, 1) := by decide +kernel
theorem dX12_ruled_71 : decode cX12_ruled 71 = .ok (.iload 4, 2) := by decide +kernel
theorem dX12_ruled_73 : decode cX12_ruled 73 = .ok (.invokevirtual 307, 3) := by decide +kernel
theorem dX12_ruled_76 : decode cX12_ruled 76 = .ok (.istore_n 3, 1) := by decide +kernel
theorem dX12_ruled_77 : decode cX12_ruled 77 = .ok (.iinc 4 1, 3) := by decide +kernel
theorem dX12_ruled_80 : decode cX12_ruled 80 = .ok (.goto (-39), 3) := by decide +kernel
theorem dX12_ruled_83 : decode cX12_ruled 83 = .ok (.iload_n 3, 1) := by decide +kernel
theorem dX12_ruled_84 : decode cX12_ruled 84 = .ok (.bipush (-9), 2) := by decide +kernel
theorem dX12_ruled_86 : decode cX12_ruled 86 = .ok (.if_icmp .eq 7, 3) := by decide +kernel
theorem dX12_ruled_89 : decode cX12_ruled 89 = .ok (.iload_n 2, 1) := by decide +kernel
theorem dX12_ruled_90 : decode cX12_ruled 90 = .ok (.ifCond .ne 7, 3) := by decide +kernel
theorem dX12_ruled_93 : decode cX12_ruled 93 = .ok (.iload_n 3, 1) := by decide +kernel
theorem dX12_ruled_94 : decode cX12_ruled 94 = .ok (.goto 12, 3) := by decide +kernel
theorem dX12_ruled_97 : decode cX12_ruled 97 = .ok (.iload_n 3, 1) := by decide +kernel
theorem dX12_ruled_98 : decode cX12_ruled 98 = .ok (.aload_n 0, 1) := by decide +kernel
theorem dX12_ruled_99 : decode cX12_ruled 99 = .ok (.iload_n 1, 1) := by decide +kernel
theorem dX12_ruled_100 : decode cX12_ruled 100 = .ok (.iconst 0, 1) := by decide +kernel
theorem dX12_ruled_101 : decode cX12_ruled 101 = .ok (.iconst 0, 1) := by decide +kernel
theorem dX12_ruled_102 : decode cX12_ruled 102 = .ok (.invokevirtual 288, 3) := by decide +kernel
theorem dX12_ruled_105 : decode cX12_ruled 105 = .ok (.isub, 1) := by decide +kernel
theorem dX12_ruled_106 : decode cX12_ruled 106 = .ok (.ireturn, 1) := by decide +kernel
theorem dX12_borneMost_0 : decode cX12_borneMost 0 = .ok (.iconst (-1), 1) := by decide +kernel
theorem dX12_borneMost_1 : decode cX12_borneMost 1 = .ok (.istore_n 2, 1) := by decide +kernel
theorem dX12_borneMost_2 : decode cX12_borneMost 2 = .ok (.iconst 0, 1) := by decide +kernel
theorem dX12_borneMost_3 : decode cX12_borneMost 3 = .ok (.istore_n 3, 1) := by decide +kernel
theorem dX12_borneMost_4 : decode cX12_borneMost 4 = .ok (.iload_n 3, 1) := by decide +kernel
theorem dX12_borneMost_5 : decode cX12_borneMost 5 = .ok (.bipush 16, 2) := by decide +kernel
theorem dX12_borneMost_7 : decode cX12_borneMost 7 = .ok (.if_icmp .ge 49, 3) := by decide +kernel
theorem dX12_borneMost_10 : decode cX12_borneMost 10 = .ok (.aload_n 0, 1) := by decide +kernel
theorem dX12_borneMost_11 : decode cX12_borneMost 11 = .ok (.getfield 74, 3) := by decide +kernel
theorem dX12_borneMost_14 : decode cX12_borneMost 14 = .ok (.iload_n 3, 1) := by decide +kernel
theorem dX12_borneMost_15 : decode cX12_borneMost 15 = .ok (.baload, 1) := by decide +kernel
theorem dX12_borneMost_16 : decode cX12_borneMost 16 = .ok (.ifCond .eq 32, 3) := by decide +kernel
theorem dX12_borneMost_19 : decode cX12_borneMost 19 = .ok (.aload_n 0, 1) := by decide +kernel
theorem dX12_borneMost_20 : decode cX12_borneMost 20 = .ok (.getfield 62, 3) := by decide +kernel
theorem dX12_borneMost_23 : decode cX12_borneMost 23 = .ok (.bipush 16, 2) := by decide +kernel
theorem dX12_borneMost_25 : decode cX12_borneMost 25 = .ok (.iload_n 1, 1) := by decide +kernel
theorem dX12_borneMost_26 : decode cX12_borneMost 26 = .ok (.imul, 1) := by decide +kernel
theorem dX12_borneMost_27 : decode cX12_borneMost 27 = .ok (.iload_n 3, 1) := by decide +kernel
theorem dX12_borneMost_28 : decode cX12_borneMost 28 = .ok (.iadd, 1) := by decide +kernel
theorem dX12_borneMost_29 : decode cX12_borneMost 29 = .ok (.iaload, 1) := by decide +kernel
theorem dX12_borneMost_30 : decode cX12_borneMost 30 = .ok (.iload_n 2, 1) := by decide +kernel
theorem dX12_borneMost_31 : decode cX12_borneMost 31 = .ok (.if_icmp .le 17, 3) := by decide +kernel
theorem dX12_borneMost_34 : decode cX12_borneMost 34 = .ok (.aload_n 0, 1) := by decide +kernel
theorem dX12_borneMost_35 : decode cX12_borneMost 35 = .ok (.getfield 62, 3) := by decide +kernel
theorem dX12_borneMost_38 : decode cX12_borneMost 38 = .ok (.bipush 16, 2) := by decide +kernel
theorem dX12_borneMost_40 : decode cX12_borneMost 40 = .ok (.iload_n 1, 1) := by decide +kernel
theorem dX12_borneMost_41 : decode cX12_borneMost 41 = .ok (.imul, 1) := by decide +kernel
theorem dX12_borneMost_42 : decode cX12_borneMost 42 = .ok (.iload_n 3, 1) := by decide +kernel
theorem dX12_borneMost_43 : decode cX12_borneMost 43 = .ok (.iadd, 1) := by decide +kernel
theorem dX12_borneMost_44 : decode cX12_borneMost 44 = .ok (.iaload, 1) := by decide +kernel
theorem dX12_borneMost_45 : decode cX12_borneMost 45 = .ok (.goto 4, 3) := by decide +kernel
theorem dX12_borneMost_48 : decode cX12_borneMost 48 = .ok (.iload_n 2, 1) := by decide +kernel
theorem dX12_borneMost_49 : decode cX12_borneMost 49 = .ok (.istore_n 2, 1) := by decide +kernel
theorem dX12_borneMost_50 : decode cX12_borneMost 50 = .ok (.iinc 3 1, 3) := by decide +kernel
theorem dX12_borneMost_53 : decode cX12_borneMost 53 = .ok (.goto (-49), 3) := by decide +kernel
theorem dX12_borneMost_56 : decode cX12_borneMost 56 = .ok (.iload_n 2, 1) := by decide +kernel
theorem dX12_borneMost_57 : decode cX12_borneMost 57 = .ok (.ireturn, 1) := by decide +kernel
theorem dX12_close_0 : decode cX12_close 0 = .ok (.iload_n 2, 1) := by decide +kernel
theorem dX12_close_1 : decode cX12_close 1 = .ok (.i2l, 1) := by decide +kernel
theorem dX12_close_2 : decode cX12_close 2 = .ok (.lconst 0, 1) := by decide +kernel
theorem dX12_close_3 : decode cX12_close 3 = .ok (.ldc2_w 129, 3) := by decide +kernel
theorem dX12_close_6 : decode cX12_close 6 = .ok (.invokestatic 109, 3) := by decide +kernel
theorem dX12_close_9 : decode cX12_close 9 = .ok (.ifCond .ne 10, 3) := by decide +kernel
theorem dX12_close_12 : decode cX12_close 12 = .ok (.aload_n 0, 1) := by decide +kernel
theorem dX12_close_13 : decode cX12_close 13 = .ok (.bipush (-2), 2) := by decide +kernel
theorem dX12_close_15 : decode cX12_close 15 = .ok (.invokevirtual 113, 3) := by decide +kernel
theorem dX12_close_18 : decode cX12_close 18 = .ok (.ireturn, 1) := by decide +kernel
theorem dX12_close_19 : decode cX12_close 19 = .ok (.iload_n 1, 1) := by decide +kernel
theorem dX12_close_20 : decode cX12_close 20 = .ok (.i2l, 1) := by decide +kernel
theorem dX12_close_21 : decode cX12_close 21 = .ok (.lconst 1, 1) := by decide +kernel
theorem dX12_close_22 : decode cX12_close 22 = .ok (.ldc2_w 135, 3) := by decide +kernel
theorem dX12_close_25 : decode cX12_close 25 = .ok (.invokestatic 137, 3) := by decide +kernel
theorem dX12_close_28 : decode cX12_close 28 = .ok (.istore_n 3, 1) := by decide +kernel
theorem dX12_close_29 : decode cX12_close 29 = .ok (.iload_n 3, 1) := by decide +kernel
theorem dX12_close_30 : decode cX12_close 30 = .ok (.ifCond .eq 9, 3) := by decide +kernel
theorem dX12_close_33 : decode cX12_close 33 = .ok (.aload_n 0, 1) := by decide +kernel
theorem dX12_close_34 : decode cX12_close 34 = .ok (.iload_n 3, 1) := by decide +kernel
theorem dX12_close_35 : decode cX12_close 35 = .ok (.invokevirtual 113, 3) := by decide +kernel
theorem dX12_close_38 : decode cX12_close 38 = .ok (.ireturn, 1) := by decide +kernel
theorem dX12_close_39 : decode cX12_close 39 = .ok (.aload_n 0, 1) := by decide +kernel
theorem dX12_close_40 : decode cX12_close 40 = .ok (.invokevirtual 282, 3) := by decide +kernel
theorem dX12_close_43 : decode cX12_close 43 = .ok (.iconst 0, 1) := by decide +kernel
theorem dX12_close_44 : decode cX12_close 44 = .ok (.istore 4, 2) := by decide +kernel
theorem dX12_close_46 : decode cX12_close 46 = .ok (.bipush 15, 2) := by decide +kernel
theorem dX12_close_48 : decode cX12_close 48 = .ok (.istore 5, 2) := by decide +kernel
theorem dX12_close_50 : decode cX12_close 50 = .ok (.iload 5, 2) := by decide +kernel
theorem dX12_close_52 : decode cX12_close 52 = .ok (.ifCond .lt 36, 3) := by decide +kernel
theorem dX12_close_55 : decode cX12_close 55 = .ok (.aload_n 0, 1) := by decide +kernel
theorem dX12_close_56 : decode cX12_close 56 = .ok (.getfield 74, 3) := by decide +kernel
theorem dX12_close_59 : decode cX12_close 59 = .ok (.iload 5, 2) := by decide +kernel
theorem dX12_close_61 : decode cX12_close 61 = .ok (.iconst 0, 1) := by decide +kernel
theorem dX12_close_62 : decode cX12_close 62 = .ok (.bastore, 1) := by decide +kernel
theorem dX12_close_63 : decode cX12_close 63 = .ok (.aload_n 0, 1) := by decide +kernel
theorem dX12_close_64 : decode cX12_close 64 = .ok (.getfield 65, 3) := by decide +kernel
theorem dX12_close_67 : decode cX12_close 67 = .ok (.iload 5, 2) := by decide +kernel
theorem dX12_close_69 : decode cX12_close 69 = .ok (.baload, 1) := by decide +kernel
theorem dX12_close_70 : decode cX12_close 70 = .ok (.ifCond .eq 8, 3) := by decide +kernel
theorem dX12_close_73 : decode cX12_close 73 = .ok (.iload 5, 2) := by decide +kernel
theorem dX12_close_75 : decode cX12_close 75 = .ok (.goto 5, 3) := by decide +kernel
theorem dX12_close_78 : decode cX12_close 78 = .ok (.iload 4, 2) := by decide +kernel
theorem dX12_close_80 : decode cX12_close 80 = .ok (.istore 4, 2) := by decide +kernel
theorem dX12_close_82 : decode cX12_close 82 = .ok (.iinc 5 (-1), 3) := by decide +kernel
theorem dX12_close_85 : decode cX12_close 85 = .ok (.goto (-35), 3) := by decide +kernel
theorem dX12_close_88 : decode cX12_close 88 = .ok (.aload_n 0, 1) := by decide +kernel
theorem dX12_close_89 : decode cX12_close 89 = .ok (.getfield 65, 3) := by decide +kernel
theorem dX12_close_92 : decode cX12_close 92 = .ok (.iload 4, 2) := by decide +kernel
theorem dX12_close_94 : decode cX12_close 94 = .ok (.baload, 1) := by decide +kernel
theorem dX12_close_95 : decode cX12_close 95 = .ok (.ifCond .ne 6, 3) := by decide +kernel
theorem dX12_close_98 : decode cX12_close 98 = .ok (.bipush (-9), 2) := by decide +kernel
theorem dX12_close_100 : decode cX12_close 100 = .ok (.ireturn, 1) := by decide +kernel
theorem dX12_close_101 : decode cX12_close 101 = .ok (.aload_n 0, 1) := by decide +kernel
theorem dX12_close_102 : decode cX12_close 102 = .ok (.getfield 74, 3) := by decide +kernel
theorem dX12_close_105 : decode cX12_close 105 = .ok (.iload 4, 2) := by decide +kernel
theorem dX12_close_107 : decode cX12_close 107 = .ok (.iconst 1, 1) := by decide +kernel
theorem dX12_close_108 : decode cX12_close 108 = .ok (.bastore, 1) := by decide +kernel
theorem dX12_close_109 : decode cX12_close 109 = .ok (.iconst 0, 1) := by decide +kernel
theorem dX12_close_110 : decode cX12_close 110 = .ok (.istore 5, 2) := by decide +kernel
theorem dX12_close_112 : decode cX12_close 112 = .ok (.iconst (-1), 1) := by decide +kernel
theorem dX12_close_113 : decode cX12_close 113 = .ok (.istore 6, 2) := by decide +kernel
theorem dX12_close_115 : decode cX12_close 115 = .ok (.iconst 0, 1) := by decide +kernel
theorem dX12_close_116 : decode cX12_close 116 = .ok (.istore 7, 2) := by decide +kernel
theorem dX12_close_118 : decode cX12_close 118 = .ok (.iconst 0, 1) := by decide +kernel
theorem dX12_close_119 : decode cX12_close 119 = .ok (.istore 8, 2) := by decide +kernel
theorem dX12_close_121 : decode cX12_close 121 = .ok (.iconst 0, 1) := by decide +kernel
theorem dX12_close_122 : decode cX12_close 122 = .ok (.istore 9, 2) := by decide +kernel
theorem dX12_close_124 : decode cX12_close 124 = .ok (.iload 8, 2) := by decide +kernel
theorem dX12_close_126 : decode cX12_close 126 = .ok (.iload_n 1, 1) := by decide +kernel
theorem dX12_close_127 : decode cX12_close 127 = .ok (.if_icmp .ge 135, 3) := by decide +kernel
theorem dX12_close_130 : decode cX12_close 130 = .ok (.iload 9, 2) := by decide +kernel
theorem dX12_close_132 : decode cX12_close 132 = .ok (.ifCond .ne 130, 3) := by decide +kernel
theorem dX12_close_135 : decode cX12_close 135 = .ok (.iinc 8 1, 3) := by decide +kernel
theorem dX12_close_138 : decode cX12_close 138 = .ok (.iconst (-1), 1) := by decide +kernel
theorem dX12_close_139 : decode cX12_close 139 = .ok (.istore 10, 2) := by decide +kernel
theorem dX12_close_141 : decode cX12_close 141 = .ok (.iconst 0, 1) := by decide +kernel
theorem dX12_close_142 : decode cX12_close 142 = .ok (.istore 11, 2) := by decide +kernel
theorem dX12_close_144 : decode cX12_close 144 = .ok (.iload 11, 2) := by decide +kernel
theorem dX12_close_146 : decode cX12_close 146 = .ok (.sipush 256, 3) := by decide +kernel
theorem dX12_close_149 : decode cX12_close 149 = .ok (.if_icmp .ge 43, 3) := by decide +kernel
theorem dX12_close_152 : decode cX12_close 152 = .ok (.aload_n 0, 1) := by decide +kernel
theorem dX12_close_153 : decode cX12_close 153 = .ok (.getfield 68, 3) := by decide +kernel
theorem dX12_close_156 : decode cX12_close 156 = .ok (.iload 11, 2) := by decide +kernel
theorem dX12_close_158 : decode cX12_close 158 = .ok (.baload, 1) := by decide +kernel
theorem dX12_close_159 : decode cX12_close 159 = .ok (.ifCond .eq 27, 3) := by decide +kernel
theorem dX12_close_162 : decode cX12_close 162 = .ok (.iload 10, 2) := by decide +kernel
theorem dX12_close_164 : decode cX12_close 164 = .ok (.ifCond .lt 18, 3) := by decide +kernel
theorem dX12_close_167 : decode cX12_close 167 = .ok (.aload_n 0, 1) := by decide +kernel
theorem dX12_close_168 : decode cX12_close 168 = .ok (.iload 11, 2) := by decide +kernel
theorem dX12_close_170 : decode cX12_close 170 = .ok (.invokevirtual 310, 3) := by decide +kernel
theorem dX12_close_173 : decode cX12_close 173 = .ok (.aload_n 0, 1) := by decide +kernel
theorem dX12_close_174 : decode cX12_close 174 = .ok (.iload 10, 2) := by decide +kernel
theorem dX12_close_176 : decode cX12_close 176 = .ok (.invokevirtual 310, 3) := by decide +kernel
theorem dX12_close_179 : decode cX12_close 179 = .ok (.if_icmp .ge 7, 3) := by decide +kernel
theorem dX12_close_182 : decode cX12_close 182 = .ok (.iload 11, 2) := by decide +kernel
theorem dX12_close_184 : decode cX12_close 184 = .ok (.istore 10, 2) := by decide +kernel
theorem dX12_close_186 : decode cX12_close 186 = .ok (.iinc 11 1, 3) := by decide +kernel
theorem dX12_close_189 : decode cX12_close 189 = .ok (.goto (-45), 3) := by decide +kernel
theorem dX12_close_192 : decode cX12_close 192 = .ok (.aload_n 0, 1) := by decide +kernel
theorem dX12_close_193 : decode cX12_close 193 = .ok (.iload 10, 2) := by decide +kernel
theorem dX12_close_195 : decode cX12_close 195 = .ok (.invokevirtual 310, 3) := by decide +kernel
theorem dX12_close_198 : decode cX12_close 198 = .ok (.istore 5, 2) := by decide +kernel
theorem dX12_close_200 : decode cX12_close 200 = .ok (.aload_n 0, 1) := by decide +kernel
theorem dX12_close_201 : decode cX12_close 201 = .ok (.iload 10, 2) := by decide +kernel
theorem dX12_close_203 : decode cX12_close 203 = .ok (.iconst 0, 1) := by decide +kernel
theorem dX12_close_204 : decode cX12_close 204 = .ok (.iconst 0, 1) := by decide +kernel
theorem dX12_close_205 : decode cX12_close 205 = .ok (.invokevirtual 288, 3) := by decide +kernel
theorem dX12_close_208 : decode cX12_close 208 = .ok (.istore 11, 2) := by decide +kernel
theorem dX12_close_210 : decode cX12_close 210 = .ok (.iload 6, 2) := by decide +kernel
theorem dX12_close_212 : decode cX12_close 212 = .ok (.ifCond .lt 10, 3) := by decide +kernel
theorem dX12_close_215 : decode cX12_close 215 = .ok (.iload 11, 2) := by decide +kernel
theorem dX12_close_217 : decode cX12_close 217 = .ok (.iload 6, 2) := by decide +kernel
theorem dX12_close_219 : decode cX12_close 219 = .ok (.if_icmp .ge 11, 3) := by decide +kernel
theorem dX12_close_222 : decode cX12_close 222 = .ok (.iload 11, 2) := by decide +kernel
theorem dX12_close_224 : decode cX12_close 224 = .ok (.istore 6, 2) := by decide +kernel
theorem dX12_close_226 : decode cX12_close 226 = .ok (.iload 10, 2) := by decide +kernel
theorem dX12_close_228 : decode cX12_close 228 = .ok (.istore 7, 2) := by decide +kernel
theorem dX12_close_230 : decode cX12_close 230 = .ok (.iload 6, 2) := by decide +kernel
theorem dX12_close_232 : decode cX12_close 232 = .ok (.iload 5, 2) := by decide +kernel
theorem dX12_close_234 : decode cX12_close 234 = .ok (.if_icmp .ne 7, 3) := by decide +kernel
theorem dX12_close_237 : decode cX12_close 237 = .ok (.iconst 1, 1) := by decide +kernel
theorem dX12_close_238 : decode cX12_close 238 = .ok (.goto 4, 3) := by decide +kernel
theorem dX12_close_241 : decode cX12_close 241 = .ok (.iconst 0, 1) := by decide +kernel
theorem dX12_close_242 : decode cX12_close 242 = .ok (.istore 9, 2) := by decide +kernel
theorem dX12_close_244 : decode cX12_close 244 = .ok (.iload 9, 2) := by decide +kernel
theorem dX12_close_246 : decode cX12_close 246 = .ok (.ifCond .ne 13, 3) := by decide +kernel
theorem dX12_close_249 : decode cX12_close 249 = .ok (.aload_n 0, 1) := by decide +kernel
theorem dX12_close_250 : decode cX12_close 250 = .ok (.getfield 74, 3) := by decide +kernel
theorem dX12_close_253 : decode cX12_close 253 = .ok (.aload_n 0, 1) := by decide +kernel
theorem dX12_close_254 : decode cX12_close 254 = .ok (.getfield 285, 3) := by decide +kernel
theorem dX12_close_257 : decode cX12_close 257 = .ok (.iconst 1, 1) := by decide +kernel
theorem dX12_close_258 : decode cX12_close 258 = .ok (.bastore, 1) := by decide +kernel
theorem dX12_close_259 : decode cX12_close 259 = .ok (.goto (-135), 3) := by decide +kernel
theorem dX12_close_262 : decode cX12_close 262 = .ok (.iconst 0, 1) := by decide +kernel
theorem dX12_close_263 : decode cX12_close 263 = .ok (.istore 10, 2) := by decide +kernel
theorem dX12_close_265 : decode cX12_close 265 = .ok (.iconst 0, 1) := by decide +kernel
theorem dX12_close_266 : decode cX12_close 266 = .ok (.istore 11, 2) := by decide +kernel
theorem dX12_close_268 : decode cX12_close 268 = .ok (.iload 11, 2) := by decide +kernel
theorem dX12_close_270 : decode cX12_close 270 = .ok (.bipush 16, 2) := by decide +kernel
theorem dX12_close_272 : decode cX12_close 272 = .ok (.if_icmp .ge 29, 3) := by decide +kernel
theorem dX12_close_275 : decode cX12_close 275 = .ok (.iload 10, 2) := by decide +kernel
theorem dX12_close_277 : decode cX12_close 277 = .ok (.aload_n 0, 1) := by decide +kernel
theorem dX12_close_278 : decode cX12_close 278 = .ok (.getfield 74, 3) := by decide +kernel
theorem dX12_close_281 : decode cX12_close 281 = .ok (.iload 11, 2) := by decide +kernel
theorem dX12_close_283 : decode cX12_close 283 = .ok (.baload, 1) := by decide +kernel
theorem dX12_close_284 : decode cX12_close 284 = .ok (.ifCond .eq 7, 3) := by decide +kernel
theorem dX12_close_287 : decode cX12_close 287 = .ok (.iconst 1, 1) := by decide +kernel
theorem dX12_close_288 : decode cX12_close 288 = .ok (.goto 4, 3) := by decide +kernel
theorem dX12_close_291 : decode cX12_close 291 = .ok (.iconst 0, 1) := by decide +kernel
theorem dX12_close_292 : decode cX12_close 292 = .ok (.iadd, 1) := by decide +kernel
theorem dX12_close_293 : decode cX12_close 293 = .ok (.istore 10, 2) := by decide +kernel
theorem dX12_close_295 : decode cX12_close 295 = .ok (.iinc 11 1, 3) := by decide +kernel
theorem dX12_close_298 : decode cX12_close 298 = .ok (.goto (-30), 3) := by decide +kernel
theorem dX12_close_301 : decode cX12_close 301 = .ok (.iload_n 2, 1) := by decide +kernel
theorem dX12_close_302 : decode cX12_close 302 = .ok (.ifCond .ne 8, 3) := by decide +kernel
theorem dX12_close_305 : decode cX12_close 305 = .ok (.iload 5, 2) := by decide +kernel
theorem dX12_close_307 : decode cX12_close 307 = .ok (.goto 53, 3) := by decide +kernel
theorem dX12_close_310 : decode cX12_close 310 = .ok (.iload_n 2, 1) := by decide +kernel
theorem dX12_close_311 : decode cX12_close 311 = .ok (.iconst 1, 1) := by decide +kernel
theorem dX12_close_312 : decode cX12_close 312 = .ok (.if_icmp .ne 8, 3) := by decide +kernel
theorem dX12_close_315 : decode cX12_close 315 = .ok (.iload 6, 2) := by decide +kernel
theorem dX12_close_317 : decode cX12_close 317 = .ok (.goto 43, 3) := by decide +kernel
theorem dX12_close_320 : decode cX12_close 320 = .ok (.iload_n 2, 1) := by decide +kernel
theorem dX12_close_321 : decode cX12_close 321 = .ok (.iconst 2, 1) := by decide +kernel
theorem dX12_close_322 : decode cX12_close 322 = .ok (.if_icmp .ne 8, 3) := by decide +kernel
theorem dX12_close_325 : decode cX12_close 325 = .ok (.iload 7, 2) := by decide +kernel
theorem dX12_close_327 : decode cX12_close 327 = .ok (.goto 33, 3) := by decide +kernel
theorem dX12_close_330 : decode cX12_close 330 = .ok (.iload_n 2, 1) := by decide +kernel
theorem dX12_close_331 : decode cX12_close 331 = .ok (.iconst 3, 1) := by decide +kernel
theorem dX12_close_332 : decode cX12_close 332 = .ok (.if_icmp .ne 8, 3) := by decide +kernel
theorem dX12_close_335 : decode cX12_close 335 = .ok (.iload 8, 2) := by decide +kernel
theorem dX12_close_337 : decode cX12_close 337 = .ok (.goto 23, 3) := by decide +kernel
theorem dX12_close_340 : decode cX12_close 340 = .ok (.iload_n 2, 1) := by decide +kernel
theorem dX12_close_341 : decode cX12_close 341 = .ok (.iconst 4, 1) := by decide +kernel
theorem dX12_close_342 : decode cX12_close 342 = .ok (.if_icmp .ne 8, 3) := by decide +kernel
theorem dX12_close_345 : decode cX12_close 345 = .ok (.iload 10, 2) := by decide +kernel
theorem dX12_close_347 : decode cX12_close 347 = .ok (.goto 13, 3) := by decide +kernel
theorem dX12_close_350 : decode cX12_close 350 = .ok (.iload 9, 2) := by decide +kernel
theorem dX12_close_352 : decode cX12_close 352 = .ok (.ifCond .eq 7, 3) := by decide +kernel
theorem dX12_close_355 : decode cX12_close 355 = .ok (.iconst 1, 1) := by decide +kernel
theorem dX12_close_356 : decode cX12_close 356 = .ok (.goto 4, 3) := by decide +kernel
theorem dX12_close_359 : decode cX12_close 359 = .ok (.iconst 0, 1) := by decide +kernel
theorem dX12_close_360 : decode cX12_close 360 = .ok (.ireturn, 1) := by decide +kernel
theorem dX12_put_0 : decode cX12_put 0 = .ok (.aload_n 0, 1) := by decide +kernel
theorem dX12_put_1 : decode cX12_put 1 = .ok (.getfield 313, 3) := by decide +kernel
theorem dX12_put_4 : decode cX12_put 4 = .ok (.bipush 12, 2) := by decide +kernel
theorem dX12_put_6 : decode cX12_put 6 = .ok (.if_icmp .ne 10, 3) := by decide +kernel
theorem dX12_put_9 : decode cX12_put 9 = .ok (.aload_n 0, 1) := by decide +kernel
theorem dX12_put_10 : decode cX12_put 10 = .ok (.bipush (-6), 2) := by decide +kernel
theorem dX12_put_12 : decode cX12_put 12 = .ok (.invokevirtual 113, 3) := by decide +kernel
theorem dX12_put_15 : decode cX12_put 15 = .ok (.ireturn, 1) := by decide +kernel
theorem dX12_put_16 : decode cX12_put 16 = .ok (.aload_n 0, 1) := by decide +kernel
theorem dX12_put_17 : decode cX12_put 17 = .ok (.getfield 77, 3) := by decide +kernel
theorem dX12_put_20 : decode cX12_put 20 = .ok (.aload_n 0, 1) := by decide +kernel
theorem dX12_put_21 : decode cX12_put 21 = .ok (.getfield 313, 3) := by decide +kernel
theorem dX12_put_24 : decode cX12_put 24 = .ok (.iload_n 1, 1) := by decide +kernel
theorem dX12_put_25 : decode cX12_put 25 = .ok (.iastore, 1) := by decide +kernel
theorem dX12_put_26 : decode cX12_put 26 = .ok (.aload_n 0, 1) := by decide +kernel
theorem dX12_put_27 : decode cX12_put 27 = .ok (.dup, 1) := by decide +kernel
theorem dX12_put_28 : decode cX12_put 28 = .ok (.getfield 313, 3) := by decide +kernel
theorem dX12_put_31 : decode cX12_put 31 = .ok (.iconst 1, 1) := by decide +kernel
theorem dX12_put_32 : decode cX12_put 32 = .ok (.iadd, 1) := by decide +kernel
theorem dX12_put_33 : decode cX12_put 33 = .ok (.putfield 313, 3) := by decide +kernel
theorem dX12_put_36 : decode cX12_put 36 = .ok (.aload_n 0, 1) := by decide +kernel
theorem dX12_put_37 : decode cX12_put 37 = .ok (.getfield 313, 3) := by decide +kernel
theorem dX12_put_40 : decode cX12_put 40 = .ok (.ireturn, 1) := by decide +kernel
theorem dX12_fails_0 : decode cX12_fails 0 = .ok (.iconst 0, 1) := by decide +kernel
theorem dX12_fails_1 : decode cX12_fails 1 = .ok (.istore_n 1, 1) := by decide +kernel
theorem dX12_fails_2 : decode cX12_fails 2 = .ok (.iload_n 1, 1) := by decide +kernel
theorem dX12_fails_3 : decode cX12_fails 3 = .ok (.bipush 12, 2) := by decide +kernel
theorem dX12_fails_5 : decode cX12_fails 5 = .ok (.if_icmp .ge 28, 3) := by decide +kernel
theorem dX12_fails_8 : decode cX12_fails 8 = .ok (.aload_n 0, 1) := by decide +kernel
theorem dX12_fails_9 : decode cX12_fails 9 = .ok (.getfield 77, 3) := by decide +kernel
theorem dX12_fails_12 : decode cX12_fails 12 = .ok (.iload_n 1, 1) := by decide +kernel
theorem dX12_fails_13 : decode cX12_fails 13 = .ok (.iaload, 1) := by decide +kernel
theorem dX12_fails_14 : decode cX12_fails 14 = .ok (.i2l, 1) := by decide +kernel
theorem dX12_fails_15 : decode cX12_fails 15 = .ok (.lconst 0, 1) := by decide +kernel
theorem dX12_fails_16 : decode cX12_fails 16 = .ok (.ldc2_w 316, 3) := by decide +kernel
theorem dX12_fails_19 : decode cX12_fails 19 = .ok (.invokestatic 109, 3) := by decide +kernel
theorem dX12_fails_22 : decode cX12_fails 22 = .ok (.ifCond .ne 5, 3) := by decide +kernel
theorem dX12_fails_25 : decode cX12_fails 25 = .ok (.iload_n 1, 1) := by decide +kernel
theorem dX12_fails_26 : decode cX12_fails 26 = .ok (.ireturn, 1) := by decide +kernel
theorem dX12_fails_27 : decode cX12_fails 27 = .ok (.iinc 1 1, 3) := by decide +kernel
theorem dX12_fails_30 : decode cX12_fails 30 = .ok (.goto (-28), 3) := by decide +kernel
theorem dX12_fails_33 : decode cX12_fails 33 = .ok (.iconst 0, 1) := by decide +kernel
theorem dX12_fails_34 : decode cX12_fails 34 = .ok (.istore_n 1, 1) := by decide +kernel
theorem dX12_fails_35 : decode cX12_fails 35 = .ok (.iload_n 1, 1) := by decide +kernel
theorem dX12_fails_36 : decode cX12_fails 36 = .ok (.iconst 4, 1) := by decide +kernel
theorem dX12_fails_37 : decode cX12_fails 37 = .ok (.if_icmp .ge 142, 3) := by decide +kernel
theorem dX12_fails_40 : decode cX12_fails 40 = .ok (.aload_n 0, 1) := by decide +kernel
theorem dX12_fails_41 : decode cX12_fails 41 = .ok (.getfield 56, 3) := by decide +kernel
theorem dX12_fails_44 : decode cX12_fails 44 = .ok (.iload_n 1, 1) := by decide +kernel
theorem dX12_fails_45 : decode cX12_fails 45 = .ok (.iaload, 1) := by decide +kernel
theorem dX12_fails_46 : decode cX12_fails 46 = .ok (.ifCond .ne 6, 3) := by decide +kernel
theorem dX12_fails_49 : decode cX12_fails 49 = .ok (.goto 124, 3) := by decide +kernel
theorem dX12_fails_52 : decode cX12_fails 52 = .ok (.iconst 0, 1) := by decide +kernel
theorem dX12_fails_53 : decode cX12_fails 53 = .ok (.istore_n 2, 1) := by decide +kernel
theorem dX12_fails_54 : decode cX12_fails 54 = .ok (.iload_n 2, 1) := by decide +kernel
theorem dX12_fails_55 : decode cX12_fails 55 = .ok (.iconst 4, 1) := by decide +kernel
theorem dX12_fails_56 : decode cX12_fails 56 = .ok (.if_icmp .ge 59, 3) := by decide +kernel
theorem dX12_fails_59 : decode cX12_fails 59 = .ok (.aload_n 0, 1) := by decide +kernel
theorem dX12_fails_60 : decode cX12_fails 60 = .ok (.getfield 53, 3) := by decide +kernel
theorem dX12_fails_63 : decode cX12_fails 63 = .ok (.iload_n 2, 1) := by decide +kernel
theorem dX12_fails_64 : decode cX12_fails 64 = .ok (.iaload, 1) := by decide +kernel
theorem dX12_fails_65 : decode cX12_fails 65 = .ok (.ifCond .le 44, 3) := by decide +kernel
theorem dX12_fails_68 : decode cX12_fails 68 = .ok (.aload_n 0, 1) := by decide +kernel
theorem dX12_fails_69 : decode cX12_fails 69 = .ok (.getfield 77, 3) := by decide +kernel
theorem dX12_fails_72 : decode cX12_fails 72 = .ok (.iload_n 1, 1) := by decide +kernel
theorem dX12_fails_73 : decode cX12_fails 73 = .ok (.iaload, 1) := by decide +kernel
theorem dX12_fails_74 : decode cX12_fails 74 = .ok (.aload_n 0, 1) := by decide +kernel
theorem dX12_fails_75 : decode cX12_fails 75 = .ok (.getfield 77, 3) := by decide +kernel
theorem dX12_fails_78 : decode cX12_fails 78 = .ok (.iconst 4, 1) := by decide +kernel
theorem dX12_fails_79 : decode cX12_fails 79 = .ok (.iload_n 2, 1) := by decide +kernel
theorem dX12_fails_80 : decode cX12_fails 80 = .ok (.iadd, 1) := by decide +kernel
theorem dX12_fails_81 : decode cX12_fails 81 = .ok (.iaload, 1) := by decide +kernel
theorem dX12_fails_82 : decode cX12_fails 82 = .ok (.aload_n 0, 1) := by decide +kernel
theorem dX12_fails_83 : decode cX12_fails 83 = .ok (.getfield 13, 3) := by decide +kernel
theorem dX12_fails_86 : decode cX12_fails 86 = .ok (.bipush 24, 2) := by decide +kernel
theorem dX12_fails_88 : decode cX12_fails 88 = .ok (.iconst 4, 1) := by decide +kernel
theorem dX12_fails_89 : decode cX12_fails 89 = .ok (.iload_n 2, 1) := by decide +kernel
theorem dX12_fails_90 : decode cX12_fails 90 = .ok (.imul, 1) := by decide +kernel
theorem dX12_fails_91 : decode cX12_fails 91 = .ok (.iadd, 1) := by decide +kernel
theorem dX12_fails_92 : decode cX12_fails 92 = .ok (.iload_n 1, 1) := by decide +kernel
theorem dX12_fails_93 : decode cX12_fails 93 = .ok (.iadd, 1) := by decide +kernel
theorem dX12_fails_94 : decode cX12_fails 94 = .ok (.iaload, 1) := by decide +kernel
theorem dX12_fails_95 : decode cX12_fails 95 = .ok (.iadd, 1) := by decide +kernel
theorem dX12_fails_96 : decode cX12_fails 96 = .ok (.if_icmp .le 13, 3) := by decide +kernel
theorem dX12_fails_99 : decode cX12_fails 99 = .ok (.bipush 100, 2) := by decide +kernel
theorem dX12_fails_101 : decode cX12_fails 101 = .ok (.bipush 10, 2) := by decide +kernel
theorem dX12_fails_103 : decode cX12_fails 103 = .ok (.iload_n 2, 1) := by decide +kernel
theorem dX12_fails_104 : decode cX12_fails 104 = .ok (.imul, 1) := by decide +kernel
theorem dX12_fails_105 : decode cX12_fails 105 = .ok (.iadd, 1) := by decide +kernel
theorem dX12_fails_106 : decode cX12_fails 106 = .ok (.iload_n 1, 1) := by decide +kernel
theorem dX12_fails_107 : decode cX12_fails 107 = .ok (.iadd, 1) := by decide +kernel
theorem dX12_fails_108 : decode cX12_fails 108 = .ok (.ireturn, 1) := by decide +kernel
theorem dX12_fails_109 : decode cX12_fails 109 = .ok (.iinc 2 1, 3) := by decide +kernel
theorem dX12_fails_112 : decode cX12_fails 112 = .ok (.goto (-58), 3) := by decide +kernel
theorem dX12_fails_115 : decode cX12_fails 115 = .ok (.aload_n 0, 1) := by decide +kernel
theorem dX12_fails_116 : decode cX12_fails 116 = .ok (.getfield 77, 3) := by decide +kernel
theorem dX12_fails_119 : decode cX12_fails 119 = .ok (.iload_n 1, 1) := by decide +kernel
theorem dX12_fails_120 : decode cX12_fails 120 = .ok (.iaload, 1) := by decide +kernel
theorem dX12_fails_121 : decode cX12_fails 121 = .ok (.aload_n 0, 1) := by decide +kernel
theorem dX12_fails_122 : decode cX12_fails 122 = .ok (.getfield 77, 3) := by decide +kernel
theorem dX12_fails_125 : decode cX12_fails 125 = .ok (.bipush 8, 2) := by decide +kernel
theorem dX12_fails_127 : decode cX12_fails 127 = .ok (.iload_n 1, 1) := by decide +kernel
theorem dX12_fails_128 : decode cX12_fails 128 = .ok (.iadd, 1) := by decide +kernel
theorem dX12_fails_129 : decode cX12_fails 129 = .ok (.iaload, 1) := by decide +kernel
theorem dX12_fails_130 : decode cX12_fails 130 = .ok (.aload_n 0, 1) := by decide +kernel
theorem dX12_fails_131 : decode cX12_fails 131 = .ok (.getfield 13, 3) := by decide +kernel
theorem dX12_fails_134 : decode cX12_fails 134 = .ok (.bipush 6, 2) := by decide +kernel
theorem dX12_fails_136 : decode cX12_fails 136 = .ok (.iload_n 1, 1) := by decide +kernel
theorem dX12_fails_137 : decode cX12_fails 137 = .ok (.imul, 1) := by decide +kernel
theorem dX12_fails_138 : decode cX12_fails 138 = .ok (.iconst 3, 1) := by decide +kernel
theorem dX12_fails_139 : decode cX12_fails 139 = .ok (.iadd, 1) := by decide +kernel
theorem dX12_fails_140 : decode cX12_fails 140 = .ok (.iaload, 1) := by decide +kernel
theorem dX12_fails_141 : decode cX12_fails 141 = .ok (.iadd, 1) := by decide +kernel
theorem dX12_fails_142 : decode cX12_fails 142 = .ok (.if_icmp .le 9, 3) := by decide +kernel
theorem dX12_fails_145 : decode cX12_fails 145 = .ok (.sipush 200, 3) := by decide +kernel
theorem dX12_fails_148 : decode cX12_fails 148 = .ok (.iload_n 1, 1) := by decide +kernel
theorem dX12_fails_149 : decode cX12_fails 149 = .ok (.iadd, 1) := by decide +kernel
theorem dX12_fails_150 : decode cX12_fails 150 = .ok (.ireturn, 1) := by decide +kernel
theorem dX12_fails_151 : decode cX12_fails 151 = .ok (.aload_n 0, 1) := by decide +kernel
theorem dX12_fails_152 : decode cX12_fails 152 = .ok (.getfield 77, 3) := by decide +kernel
theorem dX12_fails_155 : decode cX12_fails 155 = .ok (.iload_n 1, 1) := by decide +kernel
theorem dX12_fails_156 : decode cX12_fails 156 = .ok (.iaload, 1) := by decide +kernel
theorem dX12_fails_157 : decode cX12_fails 157 = .ok (.aload_n 0, 1) := by decide +kernel
theorem dX12_fails_158 : decode cX12_fails 158 = .ok (.getfield 13, 3) := by decide +kernel
theorem dX12_fails_161 : decode cX12_fails 161 = .ok (.bipush 41, 2) := by decide +kernel
theorem dX12_fails_163 : decode cX12_fails 163 = .ok (.iaload, 1) := by decide +kernel
theorem dX12_fails_164 : decode cX12_fails 164 = .ok (.if_icmp .le 9, 3) := by decide +kernel
theorem dX12_fails_167 : decode cX12_fails 167 = .ok (.sipush 300, 3) := by decide +kernel
theorem dX12_fails_170 : decode cX12_fails 170 = .ok (.iload_n 1, 1) := by decide +kernel
theorem dX12_fails_171 : decode cX12_fails 171 = .ok (.iadd, 1) := by decide +kernel
theorem dX12_fails_172 : decode cX12_fails 172 = .ok (.ireturn, 1) := by decide +kernel
theorem dX12_fails_173 : decode cX12_fails 173 = .ok (.iinc 1 1, 3) := by decide +kernel
theorem dX12_fails_176 : decode cX12_fails 176 = .ok (.goto (-141), 3) := by decide +kernel
theorem dX12_fails_179 : decode cX12_fails 179 = .ok (.iconst (-1), 1) := by decide +kernel
theorem dX12_fails_180 : decode cX12_fails 180 = .ok (.ireturn, 1) := by decide +kernel
theorem dX12_prove_0 : decode cX12_prove 0 = .ok (.aload_n 0, 1) := by decide +kernel
theorem dX12_prove_1 : decode cX12_prove 1 = .ok (.iload_n 1, 1) := by decide +kernel
theorem dX12_prove_2 : decode cX12_prove 2 = .ok (.invokevirtual 270, 3) := by decide +kernel
theorem dX12_prove_5 : decode cX12_prove 5 = .ok (.ifCond .eq 11, 3) := by decide +kernel
theorem dX12_prove_8 : decode cX12_prove 8 = .ok (.aload_n 0, 1) := by decide +kernel
theorem dX12_prove_9 : decode cX12_prove 9 = .ok (.iload_n 2, 1) := by decide +kernel
theorem dX12_prove_10 : decode cX12_prove 10 = .ok (.invokevirtual 264, 3) := by decide +kernel
theorem dX12_prove_13 : decode cX12_prove 13 = .ok (.ifCond .ne 9, 3) := by decide +kernel
theorem dX12_prove_16 : decode cX12_prove 16 = .ok (.aload_n 0, 1) := by decide +kernel
theorem dX12_prove_17 : decode cX12_prove 17 = .ok (.iconst (-1), 1) := by decide +kernel
theorem dX12_prove_18 : decode cX12_prove 18 = .ok (.invokevirtual 113, 3) := by decide +kernel
theorem dX12_prove_21 : decode cX12_prove 21 = .ok (.ireturn, 1) := by decide +kernel
theorem dX12_prove_22 : decode cX12_prove 22 = .ok (.aload_n 0, 1) := by decide +kernel
theorem dX12_prove_23 : decode cX12_prove 23 = .ok (.getfield 313, 3) := by decide +kernel
theorem dX12_prove_26 : decode cX12_prove 26 = .ok (.bipush 12, 2) := by decide +kernel
theorem dX12_prove_28 : decode cX12_prove 28 = .ok (.if_icmp .ge 10, 3) := by decide +kernel
theorem dX12_prove_31 : decode cX12_prove 31 = .ok (.aload_n 0, 1) := by decide +kernel
theorem dX12_prove_32 : decode cX12_prove 32 = .ok (.bipush (-3), 2) := by decide +kernel
theorem dX12_prove_34 : decode cX12_prove 34 = .ok (.invokevirtual 113, 3) := by decide +kernel
theorem dX12_prove_37 : decode cX12_prove 37 = .ok (.ireturn, 1) := by decide +kernel
theorem dX12_prove_38 : decode cX12_prove 38 = .ok (.aload_n 0, 1) := by decide +kernel
theorem dX12_prove_39 : decode cX12_prove 39 = .ok (.iconst 0, 1) := by decide +kernel
theorem dX12_prove_40 : decode cX12_prove 40 = .ok (.putfield 313, 3) := by decide +kernel
theorem dX12_prove_43 : decode cX12_prove 43 = .ok (.aload_n 0, 1) := by decide +kernel
theorem dX12_prove_44 : decode cX12_prove 44 = .ok (.iload_n 1, 1) := by decide +kernel
theorem dX12_prove_45 : decode cX12_prove 45 = .ok (.iload_n 2, 1) := by decide +kernel
theorem dX12_prove_46 : decode cX12_prove 46 = .ok (.invokevirtual 244, 3) := by decide +kernel
theorem dX12_prove_49 : decode cX12_prove 49 = .ok (.aload_n 0, 1) := by decide +kernel
theorem dX12_prove_50 : decode cX12_prove 50 = .ok (.invokevirtual 318, 3) := by decide +kernel
theorem dX12_prove_53 : decode cX12_prove 53 = .ok (.istore_n 3, 1) := by decide +kernel
theorem dX12_prove_54 : decode cX12_prove 54 = .ok (.iload_n 3, 1) := by decide +kernel
theorem dX12_prove_55 : decode cX12_prove 55 = .ok (.ifCond .lt 9, 3) := by decide +kernel
theorem dX12_prove_58 : decode cX12_prove 58 = .ok (.sipush (-1000), 3) := by decide +kernel
theorem dX12_prove_61 : decode cX12_prove 61 = .ok (.iload_n 3, 1) := by decide +kernel
theorem dX12_prove_62 : decode cX12_prove 62 = .ok (.isub, 1) := by decide +kernel
theorem dX12_prove_63 : decode cX12_prove 63 = .ok (.ireturn, 1) := by decide +kernel
theorem dX12_prove_64 : decode cX12_prove 64 = .ok (.iconst 0, 1) := by decide +kernel
theorem dX12_prove_65 : decode cX12_prove 65 = .ok (.istore 4, 2) := by decide +kernel
theorem dX12_prove_67 : decode cX12_prove 67 = .ok (.iconst 0, 1) := by decide +kernel
theorem dX12_prove_68 : decode cX12_prove 68 = .ok (.istore 5, 2) := by decide +kernel
theorem dX12_prove_70 : decode cX12_prove 70 = .ok (.iload 5, 2) := by decide +kernel
theorem dX12_prove_72 : decode cX12_prove 72 = .ok (.iconst 4, 1) := by decide +kernel
theorem dX12_prove_73 : decode cX12_prove 73 = .ok (.if_icmp .ge 85, 3) := by decide +kernel
theorem dX12_prove_76 : decode cX12_prove 76 = .ok (.iload 4, 2) := by decide +kernel
theorem dX12_prove_78 : decode cX12_prove 78 = .ok (.aload_n 0, 1) := by decide +kernel
theorem dX12_prove_79 : decode cX12_prove 79 = .ok (.getfield 77, 3) := by decide +kernel
theorem dX12_prove_82 : decode cX12_prove 82 = .ok (.iload 5, 2) := by decide +kernel
theorem dX12_prove_84 : decode cX12_prove 84 = .ok (.iaload, 1) := by decide +kernel
theorem dX12_prove_85 : decode cX12_prove 85 = .ok (.aload_n 0, 1) := by decide +kernel
theorem dX12_prove_86 : decode cX12_prove 86 = .ok (.getfield 56, 3) := by decide +kernel
theorem dX12_prove_89 : decode cX12_prove 89 = .ok (.iload 5, 2) := by decide +kernel
theorem dX12_prove_91 : decode cX12_prove 91 = .ok (.iaload, 1) := by decide +kernel
theorem dX12_prove_92 : decode cX12_prove 92 = .ok (.imul, 1) := by decide +kernel
theorem dX12_prove_93 : decode cX12_prove 93 = .ok (.aload_n 0, 1) := by decide +kernel
theorem dX12_prove_94 : decode cX12_prove 94 = .ok (.getfield 77, 3) := by decide +kernel
theorem dX12_prove_97 : decode cX12_prove 97 = .ok (.iconst 4, 1) := by decide +kernel
theorem dX12_prove_98 : decode cX12_prove 98 = .ok (.iload 5, 2) := by decide +kernel
theorem dX12_prove_100 : decode cX12_prove 100 = .ok (.iadd, 1) := by decide +kernel
theorem dX12_prove_101 : decode cX12_prove 101 = .ok (.iaload, 1) := by decide +kernel
theorem dX12_prove_102 : decode cX12_prove 102 = .ok (.aload_n 0, 1) := by decide +kernel
theorem dX12_prove_103 : decode cX12_prove 103 = .ok (.getfield 53, 3) := by decide +kernel
theorem dX12_prove_106 : decode cX12_prove 106 = .ok (.iload 5, 2) := by decide +kernel
theorem dX12_prove_108 : decode cX12_prove 108 = .ok (.iaload, 1) := by decide +kernel
theorem dX12_prove_109 : decode cX12_prove 109 = .ok (.imul, 1) := by decide +kernel
theorem dX12_prove_110 : decode cX12_prove 110 = .ok (.isub, 1) := by decide +kernel
theorem dX12_prove_111 : decode cX12_prove 111 = .ok (.aload_n 0, 1) := by decide +kernel
theorem dX12_prove_112 : decode cX12_prove 112 = .ok (.getfield 56, 3) := by decide +kernel
theorem dX12_prove_115 : decode cX12_prove 115 = .ok (.iload 5, 2) := by decide +kernel
theorem dX12_prove_117 : decode cX12_prove 117 = .ok (.iaload, 1) := by decide +kernel
theorem dX12_prove_118 : decode cX12_prove 118 = .ok (.ifCond .le 29, 3) := by decide +kernel
theorem dX12_prove_121 : decode cX12_prove 121 = .ok (.aload_n 0, 1) := by decide +kernel
theorem dX12_prove_122 : decode cX12_prove 122 = .ok (.getfield 77, 3) := by decide +kernel
theorem dX12_prove_125 : decode cX12_prove 125 = .ok (.bipush 8, 2) := by decide +kernel
theorem dX12_prove_127 : decode cX12_prove 127 = .ok (.iload 5, 2) := by decide +kernel
theorem dX12_prove_129 : decode cX12_prove 129 = .ok (.iadd, 1) := by decide +kernel
theorem dX12_prove_130 : decode cX12_prove 130 = .ok (.iaload, 1) := by decide +kernel
theorem dX12_prove_131 : decode cX12_prove 131 = .ok (.aload_n 0, 1) := by decide +kernel
theorem dX12_prove_132 : decode cX12_prove 132 = .ok (.getfield 13, 3) := by decide +kernel
theorem dX12_prove_135 : decode cX12_prove 135 = .ok (.bipush 6, 2) := by decide +kernel
theorem dX12_prove_137 : decode cX12_prove 137 = .ok (.iload 5, 2) := by decide +kernel
theorem dX12_prove_139 : decode cX12_prove 139 = .ok (.imul, 1) := by decide +kernel
theorem dX12_prove_140 : decode cX12_prove 140 = .ok (.iconst 4, 1) := by decide +kernel
theorem dX12_prove_141 : decode cX12_prove 141 = .ok (.iadd, 1) := by decide +kernel
theorem dX12_prove_142 : decode cX12_prove 142 = .ok (.iaload, 1) := by decide +kernel
theorem dX12_prove_143 : decode cX12_prove 143 = .ok (.imul, 1) := by decide +kernel
theorem dX12_prove_144 : decode cX12_prove 144 = .ok (.goto 4, 3) := by decide +kernel
theorem dX12_prove_147 : decode cX12_prove 147 = .ok (.iconst 0, 1) := by decide +kernel
theorem dX12_prove_148 : decode cX12_prove 148 = .ok (.isub, 1) := by decide +kernel
theorem dX12_prove_149 : decode cX12_prove 149 = .ok (.iadd, 1) := by decide +kernel
theorem dX12_prove_150 : decode cX12_prove 150 = .ok (.istore 4, 2) := by decide +kernel
theorem dX12_prove_152 : decode cX12_prove 152 = .ok (.iinc 5 1, 3) := by decide +kernel
theorem dX12_prove_155 : decode cX12_prove 155 = .ok (.goto (-85), 3) := by decide +kernel
theorem dX12_prove_158 : decode cX12_prove 158 = .ok (.iload 4, 2) := by decide +kernel
theorem dX12_prove_160 : decode cX12_prove 160 = .ok (.ifCond .ge 7, 3) := by decide +kernel
theorem dX12_prove_163 : decode cX12_prove 163 = .ok (.iconst 0, 1) := by decide +kernel
theorem dX12_prove_164 : decode cX12_prove 164 = .ok (.goto 5, 3) := by decide +kernel
theorem dX12_prove_167 : decode cX12_prove 167 = .ok (.iload 4, 2) := by decide +kernel
theorem dX12_prove_169 : decode cX12_prove 169 = .ok (.ireturn, 1) := by decide +kernel
theorem dX12_promise_0 : decode cX12_promise 0 = .ok (.aload_n 0, 1) := by decide +kernel
theorem dX12_promise_1 : decode cX12_promise 1 = .ok (.iload_n 1, 1) := by decide +kernel
theorem dX12_promise_2 : decode cX12_promise 2 = .ok (.invokevirtual 270, 3) := by decide +kernel
theorem dX12_promise_5 : decode cX12_promise 5 = .ok (.ifCond .eq 11, 3) := by decide +kernel
theorem dX12_promise_8 : decode cX12_promise 8 = .ok (.aload_n 0, 1) := by decide +kernel
theorem dX12_promise_9 : decode cX12_promise 9 = .ok (.iload_n 3, 1) := by decide +kernel
theorem dX12_promise_10 : decode cX12_promise 10 = .ok (.invokevirtual 264, 3) := by decide +kernel
theorem dX12_promise_13 : decode cX12_promise 13 = .ok (.ifCond .ne 9, 3) := by decide +kernel
theorem dX12_promise_16 : decode cX12_promise 16 = .ok (.aload_n 0, 1) := by decide +kernel
theorem dX12_promise_17 : decode cX12_promise 17 = .ok (.iconst (-1), 1) := by decide +kernel
theorem dX12_promise_18 : decode cX12_promise 18 = .ok (.invokevirtual 113, 3) := by decide +kernel
theorem dX12_promise_21 : decode cX12_promise 21 = .ok (.ireturn, 1) := by decide +kernel
theorem dX12_promise_22 : decode cX12_promise 22 = .ok (.iload_n 2, 1) := by decide +kernel
theorem dX12_promise_23 : decode cX12_promise 23 = .ok (.i2l, 1) := by decide +kernel
theorem dX12_promise_24 : decode cX12_promise 24 = .ok (.lconst 0, 1) := by decide +kernel
theorem dX12_promise_25 : decode cX12_promise 25 = .ok (.ldc2_w 133, 3) := by decide +kernel
theorem dX12_promise_28 : decode cX12_promise 28 = .ok (.invokestatic 137, 3) := by decide +kernel
theorem dX12_promise_31 : decode cX12_promise 31 = .ok (.istore 4, 2) := by decide +kernel
theorem dX12_promise_33 : decode cX12_promise 33 = .ok (.iload 4, 2) := by decide +kernel
theorem dX12_promise_35 : decode cX12_promise 35 = .ok (.ifCond .eq 10, 3) := by decide +kernel
theorem dX12_promise_38 : decode cX12_promise 38 = .ok (.aload_n 0, 1) := by decide +kernel
theorem dX12_promise_39 : decode cX12_promise 39 = .ok (.iload 4, 2) := by decide +kernel
theorem dX12_promise_41 : decode cX12_promise 41 = .ok (.invokevirtual 113, 3) := by decide +kernel
theorem dX12_promise_44 : decode cX12_promise 44 = .ok (.ireturn, 1) := by decide +kernel
theorem dX12_promise_45 : decode cX12_promise 45 = .ok (.aload_n 0, 1) := by decide +kernel
theorem dX12_promise_46 : decode cX12_promise 46 = .ok (.invokevirtual 282, 3) := by decide +kernel
theorem dX12_promise_49 : decode cX12_promise 49 = .ok (.iconst 0, 1) := by decide +kernel
theorem dX12_promise_50 : decode cX12_promise 50 = .ok (.istore 5, 2) := by decide +kernel
theorem dX12_promise_52 : decode cX12_promise 52 = .ok (.iconst 0, 1) := by decide +kernel
theorem dX12_promise_53 : decode cX12_promise 53 = .ok (.istore 6, 2) := by decide +kernel
theorem dX12_promise_55 : decode cX12_promise 55 = .ok (.iload 6, 2) := by decide +kernel
theorem dX12_promise_57 : decode cX12_promise 57 = .ok (.iconst 4, 1) := by decide +kernel
theorem dX12_promise_58 : decode cX12_promise 58 = .ok (.if_icmp .ge 47, 3) := by decide +kernel
theorem dX12_promise_61 : decode cX12_promise 61 = .ok (.iload 5, 2) := by decide +kernel
theorem dX12_promise_63 : decode cX12_promise 63 = .ok (.aload_n 0, 1) := by decide +kernel
theorem dX12_promise_64 : decode cX12_promise 64 = .ok (.iload 6, 2) := by decide +kernel
theorem dX12_promise_66 : decode cX12_promise 66 = .ok (.invokevirtual 117, 3) := by decide +kernel
theorem dX12_promise_69 : decode cX12_promise 69 = .ok (.ifCond .eq 26, 3) := by decide +kernel
theorem dX12_promise_72 : decode cX12_promise 72 = .ok (.aload_n 0, 1) := by decide +kernel
theorem dX12_promise_73 : decode cX12_promise 73 = .ok (.getfield 13, 3) := by decide +kernel
theorem dX12_promise_76 : decode cX12_promise 76 = .ok (.bipush 6, 2) := by decide +kernel
theorem dX12_promise_78 : decode cX12_promise 78 = .ok (.iload 6, 2) := by decide +kernel
theorem dX12_promise_80 : decode cX12_promise 80 = .ok (.imul, 1) := by decide +kernel
theorem dX12_promise_81 : decode cX12_promise 81 = .ok (.iconst 5, 1) := by decide +kernel
theorem dX12_promise_82 : decode cX12_promise 82 = .ok (.iadd, 1) := by decide +kernel
theorem dX12_promise_83 : decode cX12_promise 83 = .ok (.iaload, 1) := by decide +kernel
theorem dX12_promise_84 : decode cX12_promise 84 = .ok (.iload_n 2, 1) := by decide +kernel
theorem dX12_promise_85 : decode cX12_promise 85 = .ok (.if_icmp .gt 10, 3) := by decide +kernel
theorem dX12_promise_88 : decode cX12_promise 88 = .ok (.iconst 1, 1) := by decide +kernel
theorem dX12_promise_89 : decode cX12_promise 89 = .ok (.iload 6, 2) := by decide +kernel
theorem dX12_promise_91 : decode cX12_promise 91 = .ok (.ishl, 1) := by decide +kernel
theorem dX12_promise_92 : decode cX12_promise 92 = .ok (.goto 4, 3) := by decide +kernel
theorem dX12_promise_95 : decode cX12_promise 95 = .ok (.iconst 0, 1) := by decide +kernel
theorem dX12_promise_96 : decode cX12_promise 96 = .ok (.ior, 1) := by decide +kernel
theorem dX12_promise_97 : decode cX12_promise 97 = .ok (.istore 5, 2) := by decide +kernel
theorem dX12_promise_99 : decode cX12_promise 99 = .ok (.iinc 6 1, 3) := by decide +kernel
theorem dX12_promise_102 : decode cX12_promise 102 = .ok (.goto (-47), 3) := by decide +kernel
theorem dX12_promise_105 : decode cX12_promise 105 = .ok (.aload_n 0, 1) := by decide +kernel
theorem dX12_promise_106 : decode cX12_promise 106 = .ok (.iload_n 1, 1) := by decide +kernel
theorem dX12_promise_107 : decode cX12_promise 107 = .ok (.iload 5, 2) := by decide +kernel
theorem dX12_promise_109 : decode cX12_promise 109 = .ok (.iload_n 3, 1) := by decide +kernel
theorem dX12_promise_110 : decode cX12_promise 110 = .ok (.invokevirtual 288, 3) := by decide +kernel
theorem dX12_promise_113 : decode cX12_promise 113 = .ok (.ireturn, 1) := by decide +kernel
theorem dX12_corner_0 : decode cX12_corner 0 = .ok (.iload_n 1, 1) := by decide +kernel
theorem dX12_corner_1 : decode cX12_corner 1 = .ok (.i2l, 1) := by decide +kernel
theorem dX12_corner_2 : decode cX12_corner 2 = .ok (.lconst 0, 1) := by decide +kernel
theorem dX12_corner_3 : decode cX12_corner 3 = .ok (.ldc2_w 149, 3) := by decide +kernel
theorem dX12_corner_6 : decode cX12_corner 6 = .ok (.invokestatic 137, 3) := by decide +kernel
theorem dX12_corner_9 : decode cX12_corner 9 = .ok (.istore_n 2, 1) := by decide +kernel
theorem dX12_corner_10 : decode cX12_corner 10 = .ok (.iload_n 2, 1) := by decide +kernel
theorem dX12_corner_11 : decode cX12_corner 11 = .ok (.ifCond .eq 9, 3) := by decide +kernel
theorem dX12_corner_14 : decode cX12_corner 14 = .ok (.aload_n 0, 1) := by decide +kernel
theorem dX12_corner_15 : decode cX12_corner 15 = .ok (.iload_n 2, 1) := by decide +kernel
theorem dX12_corner_16 : decode cX12_corner 16 = .ok (.invokevirtual 113, 3) := by decide +kernel
theorem dX12_corner_19 : decode cX12_corner 19 = .ok (.ireturn, 1) := by decide +kernel
theorem dX12_corner_20 : decode cX12_corner 20 = .ok (.aload_n 0, 1) := by decide +kernel
theorem dX12_corner_21 : decode cX12_corner 21 = .ok (.invokevirtual 282, 3) := by decide +kernel
theorem dX12_corner_24 : decode cX12_corner 24 = .ok (.aload_n 0, 1) := by decide +kernel
theorem dX12_corner_25 : decode cX12_corner 25 = .ok (.iload_n 1, 1) := by decide +kernel
theorem dX12_corner_26 : decode cX12_corner 26 = .ok (.invokevirtual 279, 3) := by decide +kernel
theorem dX12_corner_29 : decode cX12_corner 29 = .ok (.aload_n 0, 1) := by decide +kernel
theorem dX12_corner_30 : decode cX12_corner 30 = .ok (.iconst 0, 1) := by decide +kernel
theorem dX12_corner_31 : decode cX12_corner 31 = .ok (.iconst 0, 1) := by decide +kernel
theorem dX12_corner_32 : decode cX12_corner 32 = .ok (.invokevirtual 295, 3) := by decide +kernel
theorem dX12_corner_35 : decode cX12_corner 35 = .ok (.istore_n 3, 1) := by decide +kernel
theorem dX12_corner_36 : decode cX12_corner 36 = .ok (.aload_n 0, 1) := by decide +kernel
theorem dX12_corner_37 : decode cX12_corner 37 = .ok (.aload_n 0, 1) := by decide +kernel
theorem dX12_corner_38 : decode cX12_corner 38 = .ok (.getfield 13, 3) := by decide +kernel
theorem dX12_corner_41 : decode cX12_corner 41 = .ok (.bipush 42, 2) := by decide +kernel
theorem dX12_corner_43 : decode cX12_corner 43 = .ok (.iaload, 1) := by decide +kernel
theorem dX12_corner_44 : decode cX12_corner 44 = .ok (.invokevirtual 279, 3) := by decide +kernel
theorem dX12_corner_47 : decode cX12_corner 47 = .ok (.iload_n 3, 1) := by decide +kernel
theorem dX12_corner_48 : decode cX12_corner 48 = .ok (.ireturn, 1) := by decide +kernel
theorem dX12_flat_0 : decode cX12_flat 0 = .ok (.aload_n 0, 1) := by decide +kernel
theorem dX12_flat_1 : decode cX12_flat 1 = .ok (.invokevirtual 282, 3) := by decide +kernel
theorem dX12_flat_4 : decode cX12_flat 4 = .ok (.aload_n 0, 1) := by decide +kernel
theorem dX12_flat_5 : decode cX12_flat 5 = .ok (.iconst 0, 1) := by decide +kernel
theorem dX12_flat_6 : decode cX12_flat 6 = .ok (.iconst 0, 1) := by decide +kernel
theorem dX12_flat_7 : decode cX12_flat 7 = .ok (.invokevirtual 295, 3) := by decide +kernel
theorem dX12_flat_10 : decode cX12_flat 10 = .ok (.bipush (-9), 2) := by decide +kernel
theorem dX12_flat_12 : decode cX12_flat 12 = .ok (.if_icmp .ne 6, 3) := by decide +kernel
theorem dX12_flat_15 : decode cX12_flat 15 = .ok (.bipush (-9), 2) := by decide +kernel
theorem dX12_flat_17 : decode cX12_flat 17 = .ok (.ireturn, 1) := by decide +kernel
theorem dX12_flat_18 : decode cX12_flat 18 = .ok (.aload_n 0, 1) := by decide +kernel
theorem dX12_flat_19 : decode cX12_flat 19 = .ok (.getfield 292, 3) := by decide +kernel
theorem dX12_flat_22 : decode cX12_flat 22 = .ok (.istore_n 1, 1) := by decide +kernel
theorem dX12_flat_23 : decode cX12_flat 23 = .ok (.aload_n 0, 1) := by decide +kernel
theorem dX12_flat_24 : decode cX12_flat 24 = .ok (.iconst 0, 1) := by decide +kernel
theorem dX12_flat_25 : decode cX12_flat 25 = .ok (.invokevirtual 279, 3) := by decide +kernel
theorem dX12_flat_28 : decode cX12_flat 28 = .ok (.aload_n 0, 1) := by decide +kernel
theorem dX12_flat_29 : decode cX12_flat 29 = .ok (.iload_n 1, 1) := by decide +kernel
theorem dX12_flat_30 : decode cX12_flat 30 = .ok (.iconst 0, 1) := by decide +kernel
theorem dX12_flat_31 : decode cX12_flat 31 = .ok (.iconst 0, 1) := by decide +kernel
theorem dX12_flat_32 : decode cX12_flat 32 = .ok (.invokevirtual 288, 3) := by decide +kernel
theorem dX12_flat_35 : decode cX12_flat 35 = .ok (.istore_n 2, 1) := by decide +kernel
theorem dX12_flat_36 : decode cX12_flat 36 = .ok (.bipush (-9), 2) := by decide +kernel
theorem dX12_flat_38 : decode cX12_flat 38 = .ok (.istore_n 3, 1) := by decide +kernel
theorem dX12_flat_39 : decode cX12_flat 39 = .ok (.iconst 0, 1) := by decide +kernel
theorem dX12_flat_40 : decode cX12_flat 40 = .ok (.istore 4, 2) := by decide +kernel
theorem dX12_flat_42 : decode cX12_flat 42 = .ok (.iload 4, 2) := by decide +kernel
theorem dX12_flat_44 : decode cX12_flat 44 = .ok (.iconst 5, 1) := by decide +kernel
theorem dX12_flat_45 : decode cX12_flat 45 = .ok (.if_icmp .ge 35, 3) := by decide +kernel
theorem dX12_flat_48 : decode cX12_flat 48 = .ok (.iload_n 2, 1) := by decide +kernel
theorem dX12_flat_49 : decode cX12_flat 49 = .ok (.bipush (-9), 2) := by decide +kernel
theorem dX12_flat_51 : decode cX12_flat 51 = .ok (.if_icmp .eq 29, 3) := by decide +kernel
theorem dX12_flat_54 : decode cX12_flat 54 = .ok (.aload_n 0, 1) := by decide +kernel
theorem dX12_flat_55 : decode cX12_flat 55 = .ok (.iload 4, 2) := by decide +kernel
theorem dX12_flat_57 : decode cX12_flat 57 = .ok (.invokevirtual 279, 3) := by decide +kernel
theorem dX12_flat_60 : decode cX12_flat 60 = .ok (.aload_n 0, 1) := by decide +kernel
theorem dX12_flat_61 : decode cX12_flat 61 = .ok (.iload_n 1, 1) := by decide +kernel
theorem dX12_flat_62 : decode cX12_flat 62 = .ok (.iconst 0, 1) := by decide +kernel
theorem dX12_flat_63 : decode cX12_flat 63 = .ok (.iconst 0, 1) := by decide +kernel
theorem dX12_flat_64 : decode cX12_flat 64 = .ok (.invokevirtual 288, 3) := by decide +kernel
theorem dX12_flat_67 : decode cX12_flat 67 = .ok (.iload_n 2, 1) := by decide +kernel
theorem dX12_flat_68 : decode cX12_flat 68 = .ok (.if_icmp .ne 6, 3) := by decide +kernel
theorem dX12_flat_71 : decode cX12_flat 71 = .ok (.iload 4, 2) := by decide +kernel
theorem dX12_flat_73 : decode cX12_flat 73 = .ok (.istore_n 3, 1) := by decide +kernel
theorem dX12_flat_74 : decode cX12_flat 74 = .ok (.iinc 4 1, 3) := by decide +kernel
theorem dX12_flat_77 : decode cX12_flat 77 = .ok (.goto (-35), 3) := by decide +kernel
theorem dX12_flat_80 : decode cX12_flat 80 = .ok (.aload_n 0, 1) := by decide +kernel
theorem dX12_flat_81 : decode cX12_flat 81 = .ok (.aload_n 0, 1) := by decide +kernel
theorem dX12_flat_82 : decode cX12_flat 82 = .ok (.getfield 13, 3) := by decide +kernel
theorem dX12_flat_85 : decode cX12_flat 85 = .ok (.bipush 42, 2) := by decide +kernel
theorem dX12_flat_87 : decode cX12_flat 87 = .ok (.iaload, 1) := by decide +kernel
theorem dX12_flat_88 : decode cX12_flat 88 = .ok (.invokevirtual 279, 3) := by decide +kernel
theorem dX12_flat_91 : decode cX12_flat 91 = .ok (.iload_n 3, 1) := by decide +kernel
theorem dX12_flat_92 : decode cX12_flat 92 = .ok (.ireturn, 1) := by decide +kernel
theorem dX12_known_0 : decode cX12_known 0 = .ok (.aload_n 0, 1) := by decide +kernel
theorem dX12_known_1 : decode cX12_known 1 = .ok (.iconst 1, 1) := by decide +kernel
theorem dX12_known_2 : decode cX12_known 2 = .ok (.iload_n 1, 1) := by decide +kernel
theorem dX12_known_3 : decode cX12_known 3 = .ok (.ishl, 1) := by decide +kernel
theorem dX12_known_4 : decode cX12_known 4 = .ok (.iconst 1, 1) := by decide +kernel
theorem dX12_known_5 : decode cX12_known 5 = .ok (.iload_n 1, 1) := by decide +kernel
theorem dX12_known_6 : decode cX12_known 6 = .ok (.ishl, 1) := by decide +kernel
theorem dX12_known_7 : decode cX12_known 7 = .ok (.invokevirtual 295, 3) := by decide +kernel
theorem dX12_known_10 : decode cX12_known 10 = .ok (.istore_n 2, 1) := by decide +kernel
theorem dX12_known_11 : decode cX12_known 11 = .ok (.aload_n 0, 1) := by decide +kernel
theorem dX12_known_12 : decode cX12_known 12 = .ok (.iconst 1, 1) := by decide +kernel
theorem dX12_known_13 : decode cX12_known 13 = .ok (.iload_n 1, 1) := by decide +kernel
theorem dX12_known_14 : decode cX12_known 14 = .ok (.ishl, 1) := by decide +kernel
theorem dX12_known_15 : decode cX12_known 15 = .ok (.iconst 0, 1) := by decide +kernel
theorem dX12_known_16 : decode cX12_known 16 = .ok (.invokevirtual 295, 3) := by decide +kernel
theorem dX12_known_19 : decode cX12_known 19 = .ok (.istore_n 3, 1) := by decide +kernel
theorem dX12_known_20 : decode cX12_known 20 = .ok (.iload_n 2, 1) := by decide +kernel
theorem dX12_known_21 : decode cX12_known 21 = .ok (.iload_n 3, 1) := by decide +kernel
theorem dX12_known_22 : decode cX12_known 22 = .ok (.if_icmp .le 7, 3) := by decide +kernel
theorem dX12_known_25 : decode cX12_known 25 = .ok (.iload_n 2, 1) := by decide +kernel
theorem dX12_known_26 : decode cX12_known 26 = .ok (.goto 4, 3) := by decide +kernel
theorem dX12_known_29 : decode cX12_known 29 = .ok (.iload_n 3, 1) := by decide +kernel
theorem dX12_known_30 : decode cX12_known 30 = .ok (.ireturn, 1) := by decide +kernel
theorem dX12_foreknown_0 : decode cX12_foreknown 0 = .ok (.aload_n 0, 1) := by decide +kernel
theorem dX12_foreknown_1 : decode cX12_foreknown 1 = .ok (.iload_n 1, 1) := by decide +kernel
theorem dX12_foreknown_2 : decode cX12_foreknown 2 = .ok (.invokevirtual 117, 3) := by decide +kernel
theorem dX12_foreknown_5 : decode cX12_foreknown 5 = .ok (.ifCond .ne 9, 3) := by decide +kernel
theorem dX12_foreknown_8 : decode cX12_foreknown 8 = .ok (.aload_n 0, 1) := by decide +kernel
theorem dX12_foreknown_9 : decode cX12_foreknown 9 = .ok (.iconst (-1), 1) := by decide +kernel
theorem dX12_foreknown_10 : decode cX12_foreknown 10 = .ok (.invokevirtual 113, 3) := by decide +kernel
theorem dX12_foreknown_13 : decode cX12_foreknown 13 = .ok (.ireturn, 1) := by decide +kernel
theorem dX12_foreknown_14 : decode cX12_foreknown 14 = .ok (.iload_n 2, 1) := by decide +kernel
theorem dX12_foreknown_15 : decode cX12_foreknown 15 = .ok (.i2l, 1) := by decide +kernel
theorem dX12_foreknown_16 : decode cX12_foreknown 16 = .ok (.lconst 0, 1) := by decide +kernel
theorem dX12_foreknown_17 : decode cX12_foreknown 17 = .ok (.lconst 1, 1) := by decide +kernel
theorem dX12_foreknown_18 : decode cX12_foreknown 18 = .ok (.invokestatic 109, 3) := by decide +kernel
theorem dX12_foreknown_21 : decode cX12_foreknown 21 = .ok (.ifCond .ne 10, 3) := by decide +kernel
theorem dX12_foreknown_24 : decode cX12_foreknown 24 = .ok (.aload_n 0, 1) := by decide +kernel
theorem dX12_foreknown_25 : decode cX12_foreknown 25 = .ok (.bipush (-2), 2) := by decide +kernel
theorem dX12_foreknown_27 : decode cX12_foreknown 27 = .ok (.invokevirtual 113, 3) := by decide +kernel
theorem dX12_foreknown_30 : decode cX12_foreknown 30 = .ok (.ireturn, 1) := by decide +kernel
theorem dX12_foreknown_31 : decode cX12_foreknown 31 = .ok (.aload_n 0, 1) := by decide +kernel
theorem dX12_foreknown_32 : decode cX12_foreknown 32 = .ok (.invokevirtual 282, 3) := by decide +kernel
theorem dX12_foreknown_35 : decode cX12_foreknown 35 = .ok (.aload_n 0, 1) := by decide +kernel
theorem dX12_foreknown_36 : decode cX12_foreknown 36 = .ok (.iconst 0, 1) := by decide +kernel
theorem dX12_foreknown_37 : decode cX12_foreknown 37 = .ok (.iconst 0, 1) := by decide +kernel
theorem dX12_foreknown_38 : decode cX12_foreknown 38 = .ok (.invokevirtual 295, 3) := by decide +kernel
theorem dX12_foreknown_41 : decode cX12_foreknown 41 = .ok (.istore_n 3, 1) := by decide +kernel
theorem dX12_foreknown_42 : decode cX12_foreknown 42 = .ok (.iload_n 3, 1) := by decide +kernel
theorem dX12_foreknown_43 : decode cX12_foreknown 43 = .ok (.bipush (-9), 2) := by decide +kernel
theorem dX12_foreknown_45 : decode cX12_foreknown 45 = .ok (.if_icmp .ne 8, 3) := by decide +kernel
theorem dX12_foreknown_48 : decode cX12_foreknown 48 = .ok (.bipush (-9), 2) := by decide +kernel
theorem dX12_foreknown_50 : decode cX12_foreknown 50 = .ok (.goto 22, 3) := by decide +kernel
theorem dX12_foreknown_53 : decode cX12_foreknown 53 = .ok (.iload_n 2, 1) := by decide +kernel
theorem dX12_foreknown_54 : decode cX12_foreknown 54 = .ok (.ifCond .ne 11, 3) := by decide +kernel
theorem dX12_foreknown_57 : decode cX12_foreknown 57 = .ok (.aload_n 0, 1) := by decide +kernel
theorem dX12_foreknown_58 : decode cX12_foreknown 58 = .ok (.iload_n 1, 1) := by decide +kernel
theorem dX12_foreknown_59 : decode cX12_foreknown 59 = .ok (.invokevirtual 321, 3) := by decide +kernel
theorem dX12_foreknown_62 : decode cX12_foreknown 62 = .ok (.goto 10, 3) := by decide +kernel
theorem dX12_foreknown_65 : decode cX12_foreknown 65 = .ok (.iload_n 3, 1) := by decide +kernel
theorem dX12_foreknown_66 : decode cX12_foreknown 66 = .ok (.aload_n 0, 1) := by decide +kernel
theorem dX12_foreknown_67 : decode cX12_foreknown 67 = .ok (.iload_n 1, 1) := by decide +kernel
theorem dX12_foreknown_68 : decode cX12_foreknown 68 = .ok (.invokevirtual 321, 3) := by decide +kernel
theorem dX12_foreknown_71 : decode cX12_foreknown 71 = .ok (.isub, 1) := by decide +kernel
theorem dX12_foreknown_72 : decode cX12_foreknown 72 = .ok (.ireturn, 1) := by decide +kernel
theorem dX12_dearest_0 : decode cX12_dearest 0 = .ok (.aload_n 0, 1) := by decide +kernel
theorem dX12_dearest_1 : decode cX12_dearest 1 = .ok (.invokevirtual 282, 3) := by decide +kernel
theorem dX12_dearest_4 : decode cX12_dearest 4 = .ok (.aload_n 0, 1) := by decide +kernel
theorem dX12_dearest_5 : decode cX12_dearest 5 = .ok (.iconst 0, 1) := by decide +kernel
theorem dX12_dearest_6 : decode cX12_dearest 6 = .ok (.iconst 0, 1) := by decide +kernel
theorem dX12_dearest_7 : decode cX12_dearest 7 = .ok (.invokevirtual 295, 3) := by decide +kernel
theorem dX12_dearest_10 : decode cX12_dearest 10 = .ok (.istore_n 1, 1) := by decide +kernel
theorem dX12_dearest_11 : decode cX12_dearest 11 = .ok (.bipush (-9), 2) := by decide +kernel
theorem dX12_dearest_13 : decode cX12_dearest 13 = .ok (.istore_n 2, 1) := by decide +kernel
theorem dX12_dearest_14 : decode cX12_dearest 14 = .ok (.iconst 0, 1) := by decide +kernel
theorem dX12_dearest_15 : decode cX12_dearest 15 = .ok (.istore_n 3, 1) := by decide +kernel
theorem dX12_dearest_16 : decode cX12_dearest 16 = .ok (.iload_n 3, 1) := by decide +kernel
theorem dX12_dearest_17 : decode cX12_dearest 17 = .ok (.iconst 4, 1) := by decide +kernel
theorem dX12_dearest_18 : decode cX12_dearest 18 = .ok (.if_icmp .ge 42, 3) := by decide +kernel
theorem dX12_dearest_21 : decode cX12_dearest 21 = .ok (.iload_n 1, 1) := by decide +kernel
theorem dX12_dearest_22 : decode cX12_dearest 22 = .ok (.bipush (-9), 2) := by decide +kernel
theorem dX12_dearest_24 : decode cX12_dearest 24 = .ok (.if_icmp .eq 36, 3) := by decide +kernel
theorem dX12_dearest_27 : decode cX12_dearest 27 = .ok (.aload_n 0, 1) := by decide +kernel
theorem dX12_dearest_28 : decode cX12_dearest 28 = .ok (.iload_n 3, 1) := by decide +kernel
theorem dX12_dearest_29 : decode cX12_dearest 29 = .ok (.invokevirtual 117, 3) := by decide +kernel
theorem dX12_dearest_32 : decode cX12_dearest 32 = .ok (.ifCond .eq 22, 3) := by decide +kernel
theorem dX12_dearest_35 : decode cX12_dearest 35 = .ok (.iload_n 2, 1) := by decide +kernel
theorem dX12_dearest_36 : decode cX12_dearest 36 = .ok (.ifCond .lt 16, 3) := by decide +kernel
theorem dX12_dearest_39 : decode cX12_dearest 39 = .ok (.aload_n 0, 1) := by decide +kernel
theorem dX12_dearest_40 : decode cX12_dearest 40 = .ok (.iload_n 3, 1) := by decide +kernel
theorem dX12_dearest_41 : decode cX12_dearest 41 = .ok (.invokevirtual 321, 3) := by decide +kernel
theorem dX12_dearest_44 : decode cX12_dearest 44 = .ok (.aload_n 0, 1) := by decide +kernel
theorem dX12_dearest_45 : decode cX12_dearest 45 = .ok (.iload_n 2, 1) := by decide +kernel
theorem dX12_dearest_46 : decode cX12_dearest 46 = .ok (.invokevirtual 321, 3) := by decide +kernel
theorem dX12_dearest_49 : decode cX12_dearest 49 = .ok (.if_icmp .ge 5, 3) := by decide +kernel
theorem dX12_dearest_52 : decode cX12_dearest 52 = .ok (.iload_n 3, 1) := by decide +kernel
theorem dX12_dearest_53 : decode cX12_dearest 53 = .ok (.istore_n 2, 1) := by decide +kernel
theorem dX12_dearest_54 : decode cX12_dearest 54 = .ok (.iinc 3 1, 3) := by decide +kernel
theorem dX12_dearest_57 : decode cX12_dearest 57 = .ok (.goto (-41), 3) := by decide +kernel
theorem dX12_dearest_60 : decode cX12_dearest 60 = .ok (.iload_n 2, 1) := by decide +kernel
theorem dX12_dearest_61 : decode cX12_dearest 61 = .ok (.ireturn, 1) := by decide +kernel
theorem dX12_who_0 : decode cX12_who 0 = .ok (.aload_n 0, 1) := by decide +kernel
theorem dX12_who_1 : decode cX12_who 1 = .ok (.iload_n 1, 1) := by decide +kernel
theorem dX12_who_2 : decode cX12_who 2 = .ok (.invokevirtual 270, 3) := by decide +kernel
theorem dX12_who_5 : decode cX12_who 5 = .ok (.ifCond .ne 9, 3) := by decide +kernel
theorem dX12_who_8 : decode cX12_who 8 = .ok (.aload_n 0, 1) := by decide +kernel
theorem dX12_who_9 : decode cX12_who 9 = .ok (.iconst (-1), 1) := by decide +kernel
theorem dX12_who_10 : decode cX12_who 10 = .ok (.invokevirtual 113, 3) := by decide +kernel
theorem dX12_who_13 : decode cX12_who 13 = .ok (.ireturn, 1) := by decide +kernel
theorem dX12_who_14 : decode cX12_who 14 = .ok (.iload_n 2, 1) := by decide +kernel
theorem dX12_who_15 : decode cX12_who 15 = .ok (.i2l, 1) := by decide +kernel
theorem dX12_who_16 : decode cX12_who 16 = .ok (.lconst 0, 1) := by decide +kernel
theorem dX12_who_17 : decode cX12_who 17 = .ok (.lconst 1, 1) := by decide +kernel
theorem dX12_who_18 : decode cX12_who 18 = .ok (.invokestatic 109, 3) := by decide +kernel
theorem dX12_who_21 : decode cX12_who 21 = .ok (.ifCond .ne 10, 3) := by decide +kernel
theorem dX12_who_24 : decode cX12_who 24 = .ok (.aload_n 0, 1) := by decide +kernel
theorem dX12_who_25 : decode cX12_who 25 = .ok (.bipush (-2), 2) := by decide +kernel
theorem dX12_who_27 : decode cX12_who 27 = .ok (.invokevirtual 113, 3) := by decide +kernel
theorem dX12_who_30 : decode cX12_who 30 = .ok (.ireturn, 1) := by decide +kernel
theorem dX12_who_31 : decode cX12_who 31 = .ok (.aload_n 0, 1) := by decide +kernel
theorem dX12_who_32 : decode cX12_who 32 = .ok (.invokevirtual 282, 3) := by decide +kernel
theorem dX12_who_35 : decode cX12_who 35 = .ok (.bipush (-9), 2) := by decide +kernel
theorem dX12_who_37 : decode cX12_who 37 = .ok (.istore_n 3, 1) := by decide +kernel
theorem dX12_who_38 : decode cX12_who 38 = .ok (.bipush (-9), 2) := by decide +kernel
theorem dX12_who_40 : decode cX12_who 40 = .ok (.istore 4, 2) := by decide +kernel
theorem dX12_who_42 : decode cX12_who 42 = .ok (.iconst 0, 1) := by decide +kernel
theorem dX12_who_43 : decode cX12_who 43 = .ok (.istore 5, 2) := by decide +kernel
theorem dX12_who_45 : decode cX12_who 45 = .ok (.iload 5, 2) := by decide +kernel
theorem dX12_who_47 : decode cX12_who 47 = .ok (.iconst 4, 1) := by decide +kernel
theorem dX12_who_48 : decode cX12_who 48 = .ok (.if_icmp .ge 82, 3) := by decide +kernel
theorem dX12_who_51 : decode cX12_who 51 = .ok (.iconst 0, 1) := by decide +kernel
theorem dX12_who_52 : decode cX12_who 52 = .ok (.istore 6, 2) := by decide +kernel
theorem dX12_who_54 : decode cX12_who 54 = .ok (.iload 6, 2) := by decide +kernel
theorem dX12_who_56 : decode cX12_who 56 = .ok (.bipush 16, 2) := by decide +kernel
theorem dX12_who_58 : decode cX12_who 58 = .ok (.if_icmp .ge 66, 3) := by decide +kernel
theorem dX12_who_61 : decode cX12_who 61 = .ok (.aload_n 0, 1) := by decide +kernel
theorem dX12_who_62 : decode cX12_who 62 = .ok (.iload 5, 2) := by decide +kernel
theorem dX12_who_64 : decode cX12_who 64 = .ok (.invokevirtual 117, 3) := by decide +kernel
theorem dX12_who_67 : decode cX12_who 67 = .ok (.ifCond .eq 51, 3) := by decide +kernel
theorem dX12_who_70 : decode cX12_who 70 = .ok (.aload_n 0, 1) := by decide +kernel
theorem dX12_who_71 : decode cX12_who 71 = .ok (.getfield 65, 3) := by decide +kernel
theorem dX12_who_74 : decode cX12_who 74 = .ok (.iload 6, 2) := by decide +kernel
theorem dX12_who_76 : decode cX12_who 76 = .ok (.baload, 1) := by decide +kernel
theorem dX12_who_77 : decode cX12_who 77 = .ok (.ifCond .ne 6, 3) := by decide +kernel
theorem dX12_who_80 : decode cX12_who 80 = .ok (.goto 38, 3) := by decide +kernel
theorem dX12_who_83 : decode cX12_who 83 = .ok (.aload_n 0, 1) := by decide +kernel
theorem dX12_who_84 : decode cX12_who 84 = .ok (.iload_n 1, 1) := by decide +kernel
theorem dX12_who_85 : decode cX12_who 85 = .ok (.iload 6, 2) := by decide +kernel
theorem dX12_who_87 : decode cX12_who 87 = .ok (.invokevirtual 244, 3) := by decide +kernel
theorem dX12_who_90 : decode cX12_who 90 = .ok (.aload_n 0, 1) := by decide +kernel
theorem dX12_who_91 : decode cX12_who 91 = .ok (.iload_n 1, 1) := by decide +kernel
theorem dX12_who_92 : decode cX12_who 92 = .ok (.iload 6, 2) := by decide +kernel
theorem dX12_who_94 : decode cX12_who 94 = .ok (.iload 5, 2) := by decide +kernel
theorem dX12_who_96 : decode cX12_who 96 = .ok (.invokevirtual 304, 3) := by decide +kernel
theorem dX12_who_99 : decode cX12_who 99 = .ok (.istore 7, 2) := by decide +kernel
theorem dX12_who_101 : decode cX12_who 101 = .ok (.iload 7, 2) := by decide +kernel
theorem dX12_who_103 : decode cX12_who 103 = .ok (.iload 4, 2) := by decide +kernel
theorem dX12_who_105 : decode cX12_who 105 = .ok (.if_icmp .gt 6, 3) := by decide +kernel
theorem dX12_who_108 : decode cX12_who 108 = .ok (.goto 10, 3) := by decide +kernel
theorem dX12_who_111 : decode cX12_who 111 = .ok (.iload 5, 2) := by decide +kernel
theorem dX12_who_113 : decode cX12_who 113 = .ok (.istore_n 3, 1) := by decide +kernel
theorem dX12_who_114 : decode cX12_who 114 = .ok (.iload 7, 2) := by decide +kernel
theorem dX12_who_116 : decode cX12_who 116 = .ok (.istore 4, 2) := by decide +kernel
theorem dX12_who_118 : decode cX12_who 118 = .ok (.iinc 6 1, 3) := by decide +kernel
theorem dX12_who_121 : decode cX12_who 121 = .ok (.goto (-67), 3) := by decide +kernel
theorem dX12_who_124 : decode cX12_who 124 = .ok (.iinc 5 1, 3) := by decide +kernel
theorem dX12_who_127 : decode cX12_who 127 = .ok (.goto (-82), 3) := by decide +kernel
theorem dX12_who_130 : decode cX12_who 130 = .ok (.iload_n 2, 1) := by decide +kernel
theorem dX12_who_131 : decode cX12_who 131 = .ok (.ifCond .ne 7, 3) := by decide +kernel
theorem dX12_who_134 : decode cX12_who 134 = .ok (.iload_n 3, 1) := by decide +kernel
theorem dX12_who_135 : decode cX12_who 135 = .ok (.goto 5, 3) := by decide +kernel
theorem dX12_who_138 : decode cX12_who 138 = .ok (.iload 4, 2) := by decide +kernel
theorem dX12_who_140 : decode cX12_who 140 = .ok (.ireturn, 1) := by decide +kernel
theorem dX12_isNoneFor_0 : decode cX12_isNoneFor 0 = .ok (.iconst 0, 1) := by decide +kernel
theorem dX12_isNoneFor_1 : decode cX12_isNoneFor 1 = .ok (.istore_n 3, 1) := by decide +kernel
theorem dX12_isNoneFor_2 : decode cX12_isNoneFor 2 = .ok (.iload_n 3, 1) := by decide +kernel
theorem dX12_isNoneFor_3 : decode cX12_isNoneFor 3 = .ok (.sipush 256, 3) := by decide +kernel
theorem dX12_isNoneFor_6 : decode cX12_isNoneFor 6 = .ok (.if_icmp .ge 77, 3) := by decide +kernel
theorem dX12_isNoneFor_9 : decode cX12_isNoneFor 9 = .ok (.aload_n 0, 1) := by decide +kernel
theorem dX12_isNoneFor_10 : decode cX12_isNoneFor 10 = .ok (.getfield 68, 3) := by decide +kernel
theorem dX12_isNoneFor_13 : decode cX12_isNoneFor 13 = .ok (.iload_n 3, 1) := by decide +kernel
theorem dX12_isNoneFor_14 : decode cX12_isNoneFor 14 = .ok (.baload, 1) := by decide +kernel
theorem dX12_isNoneFor_15 : decode cX12_isNoneFor 15 = .ok (.istore 4, 2) := by decide +kernel
theorem dX12_isNoneFor_17 : decode cX12_isNoneFor 17 = .ok (.iconst 0, 1) := by decide +kernel
theorem dX12_isNoneFor_18 : decode cX12_isNoneFor 18 = .ok (.istore 5, 2) := by decide +kernel
theorem dX12_isNoneFor_20 : decode cX12_isNoneFor 20 = .ok (.iload 5, 2) := by decide +kernel
theorem dX12_isNoneFor_22 : decode cX12_isNoneFor 22 = .ok (.bipush 16, 2) := by decide +kernel
theorem dX12_isNoneFor_24 : decode cX12_isNoneFor 24 = .ok (.if_icmp .ge 46, 3) := by decide +kernel
theorem dX12_isNoneFor_27 : decode cX12_isNoneFor 27 = .ok (.iload 4, 2) := by decide +kernel
theorem dX12_isNoneFor_29 : decode cX12_isNoneFor 29 = .ok (.ifCond .eq 41, 3) := by decide +kernel
theorem dX12_isNoneFor_32 : decode cX12_isNoneFor 32 = .ok (.iload_n 1, 1) := by decide +kernel
theorem dX12_isNoneFor_33 : decode cX12_isNoneFor 33 = .ok (.iload 5, 2) := by decide +kernel
theorem dX12_isNoneFor_35 : decode cX12_isNoneFor 35 = .ok (.ishr, 1) := by decide +kernel
theorem dX12_isNoneFor_36 : decode cX12_isNoneFor 36 = .ok (.iconst 1, 1) := by decide +kernel
theorem dX12_isNoneFor_37 : decode cX12_isNoneFor 37 = .ok (.iand, 1) := by decide +kernel
theorem dX12_isNoneFor_38 : decode cX12_isNoneFor 38 = .ok (.ifCond .eq 19, 3) := by decide +kernel
theorem dX12_isNoneFor_41 : decode cX12_isNoneFor 41 = .ok (.aload_n 0, 1) := by decide +kernel
theorem dX12_isNoneFor_42 : decode cX12_isNoneFor 42 = .ok (.getfield 62, 3) := by decide +kernel
theorem dX12_isNoneFor_45 : decode cX12_isNoneFor 45 = .ok (.bipush 16, 2) := by decide +kernel
theorem dX12_isNoneFor_47 : decode cX12_isNoneFor 47 = .ok (.iload_n 3, 1) := by decide +kernel
theorem dX12_isNoneFor_48 : decode cX12_isNoneFor 48 = .ok (.imul, 1) := by decide +kernel
theorem dX12_isNoneFor_49 : decode cX12_isNoneFor 49 = .ok (.iload 5, 2) := by decide +kernel
theorem dX12_isNoneFor_51 : decode cX12_isNoneFor 51 = .ok (.iadd, 1) := by decide +kernel
theorem dX12_isNoneFor_52 : decode cX12_isNoneFor 52 = .ok (.iaload, 1) := by decide +kernel
theorem dX12_isNoneFor_53 : decode cX12_isNoneFor 53 = .ok (.iload_n 2, 1) := by decide +kernel
theorem dX12_isNoneFor_54 : decode cX12_isNoneFor 54 = .ok (.if_icmp .gt 7, 3) := by decide +kernel
theorem dX12_isNoneFor_57 : decode cX12_isNoneFor 57 = .ok (.iconst 1, 1) := by decide +kernel
theorem dX12_isNoneFor_58 : decode cX12_isNoneFor 58 = .ok (.goto 4, 3) := by decide +kernel
theorem dX12_isNoneFor_61 : decode cX12_isNoneFor 61 = .ok (.iconst 0, 1) := by decide +kernel
theorem dX12_isNoneFor_62 : decode cX12_isNoneFor 62 = .ok (.istore 4, 2) := by decide +kernel
theorem dX12_isNoneFor_64 : decode cX12_isNoneFor 64 = .ok (.iinc 5 1, 3) := by decide +kernel
theorem dX12_isNoneFor_67 : decode cX12_isNoneFor 67 = .ok (.goto (-47), 3) := by decide +kernel
theorem dX12_isNoneFor_70 : decode cX12_isNoneFor 70 = .ok (.iload 4, 2) := by decide +kernel
theorem dX12_isNoneFor_72 : decode cX12_isNoneFor 72 = .ok (.ifCond .eq 5, 3) := by decide +kernel
theorem dX12_isNoneFor_75 : decode cX12_isNoneFor 75 = .ok (.iconst 0, 1) := by decide +kernel
theorem dX12_isNoneFor_76 : decode cX12_isNoneFor 76 = .ok (.ireturn, 1) := by decide +kernel
theorem dX12_isNoneFor_77 : decode cX12_isNoneFor 77 = .ok (.iinc 3 1, 3) := by decide +kernel
theorem dX12_isNoneFor_80 : decode cX12_isNoneFor 80 = .ok (.goto (-78), 3) := by decide +kernel
theorem dX12_isNoneFor_83 : decode cX12_isNoneFor 83 = .ok (.iconst 1, 1) := by decide +kernel
theorem dX12_isNoneFor_84 : decode cX12_isNoneFor 84 = .ok (.ireturn, 1) := by decide +kernel
theorem dX12_none_0 : decode cX12_none 0 = .ok (.iload_n 2, 1) := by decide +kernel
theorem dX12_none_1 : decode cX12_none 1 = .ok (.i2l, 1) := by decide +kernel
theorem dX12_none_2 : decode cX12_none 2 = .ok (.lconst 0, 1) := by decide +kernel
theorem dX12_none_3 : decode cX12_none 3 = .ok (.lconst 1, 1) := by decide +kernel
theorem dX12_none_4 : decode cX12_none 4 = .ok (.invokestatic 109, 3) := by decide +kernel
theorem dX12_none_7 : decode cX12_none 7 = .ok (.ifCond .ne 10, 3) := by decide +kernel
theorem dX12_none_10 : decode cX12_none 10 = .ok (.aload_n 0, 1) := by decide +kernel
theorem dX12_none_11 : decode cX12_none 11 = .ok (.bipush (-2), 2) := by decide +kernel
end
section
theorem dX12_none_13 : decode cX12_none 13 = .ok (.invokevirtual 113, 3) := by decide +kernel
theorem dX12_none_16 : decode cX12_none 16 = .ok (.ireturn, 1) := by decide +kernel
theorem dX12_none_17 : decode cX12_none 17 = .ok (.iload_n 1, 1) := by decide +kernel
theorem dX12_none_18 : decode cX12_none 18 = .ok (.i2l, 1) := by decide +kernel
theorem dX12_none_19 : decode cX12_none 19 = .ok (.lconst 0, 1) := by decide +kernel
theorem dX12_none_20 : decode cX12_none 20 = .ok (.ldc2_w 324, 3) := by decide +kernel
theorem dX12_none_23 : decode cX12_none 23 = .ok (.invokestatic 137, 3) := by decide +kernel
theorem dX12_none_26 : decode cX12_none 26 = .ok (.istore_n 3, 1) := by decide +kernel
theorem dX12_none_27 : decode cX12_none 27 = .ok (.iload_n 3, 1) := by decide +kernel
theorem dX12_none_28 : decode cX12_none 28 = .ok (.ifCond .eq 9, 3) := by decide +kernel
theorem dX12_none_31 : decode cX12_none 31 = .ok (.aload_n 0, 1) := by decide +kernel
theorem dX12_none_32 : decode cX12_none 32 = .ok (.iload_n 3, 1) := by decide +kernel
theorem dX12_none_33 : decode cX12_none 33 = .ok (.invokevirtual 113, 3) := by decide +kernel
theorem dX12_none_36 : decode cX12_none 36 = .ok (.ireturn, 1) := by decide +kernel
theorem dX12_none_37 : decode cX12_none 37 = .ok (.aload_n 0, 1) := by decide +kernel
theorem dX12_none_38 : decode cX12_none 38 = .ok (.invokevirtual 282, 3) := by decide +kernel
theorem dX12_none_41 : decode cX12_none 41 = .ok (.iconst 0, 1) := by decide +kernel
theorem dX12_none_42 : decode cX12_none 42 = .ok (.istore 4, 2) := by decide +kernel
theorem dX12_none_44 : decode cX12_none 44 = .ok (.iconst 0, 1) := by decide +kernel
theorem dX12_none_45 : decode cX12_none 45 = .ok (.istore 5, 2) := by decide +kernel
theorem dX12_none_47 : decode cX12_none 47 = .ok (.iload 5, 2) := by decide +kernel
theorem dX12_none_49 : decode cX12_none 49 = .ok (.bipush 16, 2) := by decide +kernel
theorem dX12_none_51 : decode cX12_none 51 = .ok (.if_icmp .ge 32, 3) := by decide +kernel
theorem dX12_none_54 : decode cX12_none 54 = .ok (.iload 4, 2) := by decide +kernel
theorem dX12_none_56 : decode cX12_none 56 = .ok (.aload_n 0, 1) := by decide +kernel
theorem dX12_none_57 : decode cX12_none 57 = .ok (.getfield 65, 3) := by decide +kernel
theorem dX12_none_60 : decode cX12_none 60 = .ok (.iload 5, 2) := by decide +kernel
theorem dX12_none_62 : decode cX12_none 62 = .ok (.baload, 1) := by decide +kernel
theorem dX12_none_63 : decode cX12_none 63 = .ok (.ifCond .eq 10, 3) := by decide +kernel
theorem dX12_none_66 : decode cX12_none 66 = .ok (.iconst 1, 1) := by decide +kernel
theorem dX12_none_67 : decode cX12_none 67 = .ok (.iload 5, 2) := by decide +kernel
theorem dX12_none_69 : decode cX12_none 69 = .ok (.ishl, 1) := by decide +kernel
theorem dX12_none_70 : decode cX12_none 70 = .ok (.goto 4, 3) := by decide +kernel
theorem dX12_none_73 : decode cX12_none 73 = .ok (.iconst 0, 1) := by decide +kernel
theorem dX12_none_74 : decode cX12_none 74 = .ok (.ior, 1) := by decide +kernel
theorem dX12_none_75 : decode cX12_none 75 = .ok (.istore 4, 2) := by decide +kernel
theorem dX12_none_77 : decode cX12_none 77 = .ok (.iinc 5 1, 3) := by decide +kernel
theorem dX12_none_80 : decode cX12_none 80 = .ok (.goto (-33), 3) := by decide +kernel
theorem dX12_none_83 : decode cX12_none 83 = .ok (.iconst 1, 1) := by decide +kernel
theorem dX12_none_84 : decode cX12_none 84 = .ok (.istore 5, 2) := by decide +kernel
theorem dX12_none_86 : decode cX12_none 86 = .ok (.iload 5, 2) := by decide +kernel
theorem dX12_none_88 : decode cX12_none 88 = .ok (.iconst 4, 1) := by decide +kernel
theorem dX12_none_89 : decode cX12_none 89 = .ok (.if_icmp .ge 68, 3) := by decide +kernel
theorem dX12_none_92 : decode cX12_none 92 = .ok (.iconst 1, 1) := by decide +kernel
theorem dX12_none_93 : decode cX12_none 93 = .ok (.istore 6, 2) := by decide +kernel
theorem dX12_none_95 : decode cX12_none 95 = .ok (.iload 6, 2) := by decide +kernel
theorem dX12_none_97 : decode cX12_none 97 = .ok (.ldc_w 326, 3) := by decide +kernel
theorem dX12_none_100 : decode cX12_none 100 = .ok (.if_icmp .ge 51, 3) := by decide +kernel
theorem dX12_none_103 : decode cX12_none 103 = .ok (.iload 6, 2) := by decide +kernel
theorem dX12_none_105 : decode cX12_none 105 = .ok (.iload 4, 2) := by decide +kernel
theorem dX12_none_107 : decode cX12_none 107 = .ok (.iconst (-1), 1) := by decide +kernel
theorem dX12_none_108 : decode cX12_none 108 = .ok (.ixor, 1) := by decide +kernel
theorem dX12_none_109 : decode cX12_none 109 = .ok (.iand, 1) := by decide +kernel
theorem dX12_none_110 : decode cX12_none 110 = .ok (.ifCond .ne 35, 3) := by decide +kernel
theorem dX12_none_113 : decode cX12_none 113 = .ok (.iload 6, 2) := by decide +kernel
theorem dX12_none_115 : decode cX12_none 115 = .ok (.invokestatic 213, 3) := by decide +kernel
theorem dX12_none_118 : decode cX12_none 118 = .ok (.iload 5, 2) := by decide +kernel
theorem dX12_none_120 : decode cX12_none 120 = .ok (.if_icmp .ne 25, 3) := by decide +kernel
theorem dX12_none_123 : decode cX12_none 123 = .ok (.aload_n 0, 1) := by decide +kernel
theorem dX12_none_124 : decode cX12_none 124 = .ok (.iload 6, 2) := by decide +kernel
theorem dX12_none_126 : decode cX12_none 126 = .ok (.iload_n 1, 1) := by decide +kernel
theorem dX12_none_127 : decode cX12_none 127 = .ok (.invokevirtual 327, 3) := by decide +kernel
theorem dX12_none_130 : decode cX12_none 130 = .ok (.ifCond .eq 15, 3) := by decide +kernel
theorem dX12_none_133 : decode cX12_none 133 = .ok (.iload_n 2, 1) := by decide +kernel
theorem dX12_none_134 : decode cX12_none 134 = .ok (.ifCond .ne 8, 3) := by decide +kernel
theorem dX12_none_137 : decode cX12_none 137 = .ok (.iload 5, 2) := by decide +kernel
theorem dX12_none_139 : decode cX12_none 139 = .ok (.goto 5, 3) := by decide +kernel
theorem dX12_none_142 : decode cX12_none 142 = .ok (.iload 6, 2) := by decide +kernel
theorem dX12_none_144 : decode cX12_none 144 = .ok (.ireturn, 1) := by decide +kernel
theorem dX12_none_145 : decode cX12_none 145 = .ok (.iinc 6 1, 3) := by decide +kernel
theorem dX12_none_148 : decode cX12_none 148 = .ok (.goto (-53), 3) := by decide +kernel
theorem dX12_none_151 : decode cX12_none 151 = .ok (.iinc 5 1, 3) := by decide +kernel
theorem dX12_none_154 : decode cX12_none 154 = .ok (.goto (-68), 3) := by decide +kernel
theorem dX12_none_157 : decode cX12_none 157 = .ok (.bipush (-9), 2) := by decide +kernel
theorem dX12_none_159 : decode cX12_none 159 = .ok (.ireturn, 1) := by decide +kernel
theorem dX12_year_0 : decode cX12_year 0 = .ok (.aload_n 0, 1) := by decide +kernel
theorem dX12_year_1 : decode cX12_year 1 = .ok (.iload_n 1, 1) := by decide +kernel
theorem dX12_year_2 : decode cX12_year 2 = .ok (.invokevirtual 264, 3) := by decide +kernel
theorem dX12_year_5 : decode cX12_year 5 = .ok (.ifCond .ne 9, 3) := by decide +kernel
theorem dX12_year_8 : decode cX12_year 8 = .ok (.aload_n 0, 1) := by decide +kernel
theorem dX12_year_9 : decode cX12_year 9 = .ok (.iconst (-1), 1) := by decide +kernel
theorem dX12_year_10 : decode cX12_year 10 = .ok (.invokevirtual 113, 3) := by decide +kernel
theorem dX12_year_13 : decode cX12_year 13 = .ok (.ireturn, 1) := by decide +kernel
theorem dX12_year_14 : decode cX12_year 14 = .ok (.aload_n 0, 1) := by decide +kernel
theorem dX12_year_15 : decode cX12_year 15 = .ok (.getfield 330, 3) := by decide +kernel
theorem dX12_year_18 : decode cX12_year 18 = .ok (.bipush 60, 2) := by decide +kernel
theorem dX12_year_20 : decode cX12_year 20 = .ok (.if_icmp .ne 10, 3) := by decide +kernel
theorem dX12_year_23 : decode cX12_year 23 = .ok (.aload_n 0, 1) := by decide +kernel
theorem dX12_year_24 : decode cX12_year 24 = .ok (.bipush (-6), 2) := by decide +kernel
theorem dX12_year_26 : decode cX12_year 26 = .ok (.invokevirtual 113, 3) := by decide +kernel
theorem dX12_year_29 : decode cX12_year 29 = .ok (.ireturn, 1) := by decide +kernel
theorem dX12_year_30 : decode cX12_year 30 = .ok (.aload_n 0, 1) := by decide +kernel
theorem dX12_year_31 : decode cX12_year 31 = .ok (.getfield 80, 3) := by decide +kernel
theorem dX12_year_34 : decode cX12_year 34 = .ok (.aload_n 0, 1) := by decide +kernel
theorem dX12_year_35 : decode cX12_year 35 = .ok (.getfield 330, 3) := by decide +kernel
theorem dX12_year_38 : decode cX12_year 38 = .ok (.iload_n 1, 1) := by decide +kernel
theorem dX12_year_39 : decode cX12_year 39 = .ok (.iastore, 1) := by decide +kernel
theorem dX12_year_40 : decode cX12_year 40 = .ok (.aload_n 0, 1) := by decide +kernel
theorem dX12_year_41 : decode cX12_year 41 = .ok (.dup, 1) := by decide +kernel
theorem dX12_year_42 : decode cX12_year 42 = .ok (.getfield 330, 3) := by decide +kernel
theorem dX12_year_45 : decode cX12_year 45 = .ok (.iconst 1, 1) := by decide +kernel
theorem dX12_year_46 : decode cX12_year 46 = .ok (.iadd, 1) := by decide +kernel
theorem dX12_year_47 : decode cX12_year 47 = .ok (.putfield 330, 3) := by decide +kernel
theorem dX12_year_50 : decode cX12_year 50 = .ok (.aload_n 0, 1) := by decide +kernel
theorem dX12_year_51 : decode cX12_year 51 = .ok (.getfield 330, 3) := by decide +kernel
theorem dX12_year_54 : decode cX12_year 54 = .ok (.ireturn, 1) := by decide +kernel
theorem dX12_out_0 : decode cX12_out 0 = .ok (.aload_n 0, 1) := by decide +kernel
theorem dX12_out_1 : decode cX12_out 1 = .ok (.invokevirtual 282, 3) := by decide +kernel
theorem dX12_out_4 : decode cX12_out 4 = .ok (.iconst 0, 1) := by decide +kernel
theorem dX12_out_5 : decode cX12_out 5 = .ok (.istore_n 1, 1) := by decide +kernel
theorem dX12_out_6 : decode cX12_out 6 = .ok (.iconst 0, 1) := by decide +kernel
theorem dX12_out_7 : decode cX12_out 7 = .ok (.istore_n 2, 1) := by decide +kernel
theorem dX12_out_8 : decode cX12_out 8 = .ok (.iload_n 2, 1) := by decide +kernel
theorem dX12_out_9 : decode cX12_out 9 = .ok (.aload_n 0, 1) := by decide +kernel
theorem dX12_out_10 : decode cX12_out 10 = .ok (.getfield 330, 3) := by decide +kernel
theorem dX12_out_13 : decode cX12_out 13 = .ok (.if_icmp .ge 31, 3) := by decide +kernel
theorem dX12_out_16 : decode cX12_out 16 = .ok (.iload_n 1, 1) := by decide +kernel
theorem dX12_out_17 : decode cX12_out 17 = .ok (.aload_n 0, 1) := by decide +kernel
theorem dX12_out_18 : decode cX12_out 18 = .ok (.getfield 65, 3) := by decide +kernel
theorem dX12_out_21 : decode cX12_out 21 = .ok (.aload_n 0, 1) := by decide +kernel
theorem dX12_out_22 : decode cX12_out 22 = .ok (.getfield 80, 3) := by decide +kernel
theorem dX12_out_25 : decode cX12_out 25 = .ok (.iload_n 2, 1) := by decide +kernel
theorem dX12_out_26 : decode cX12_out 26 = .ok (.iaload, 1) := by decide +kernel
theorem dX12_out_27 : decode cX12_out 27 = .ok (.baload, 1) := by decide +kernel
theorem dX12_out_28 : decode cX12_out 28 = .ok (.ifCond .eq 7, 3) := by decide +kernel
theorem dX12_out_31 : decode cX12_out 31 = .ok (.iconst 0, 1) := by decide +kernel
theorem dX12_out_32 : decode cX12_out 32 = .ok (.goto 4, 3) := by decide +kernel
theorem dX12_out_35 : decode cX12_out 35 = .ok (.iconst 1, 1) := by decide +kernel
theorem dX12_out_36 : decode cX12_out 36 = .ok (.iadd, 1) := by decide +kernel
theorem dX12_out_37 : decode cX12_out 37 = .ok (.istore_n 1, 1) := by decide +kernel
theorem dX12_out_38 : decode cX12_out 38 = .ok (.iinc 2 1, 3) := by decide +kernel
theorem dX12_out_41 : decode cX12_out 41 = .ok (.goto (-33), 3) := by decide +kernel
theorem dX12_out_44 : decode cX12_out 44 = .ok (.iload_n 1, 1) := by decide +kernel
theorem dX12_out_45 : decode cX12_out 45 = .ok (.ireturn, 1) := by decide +kernel
theorem dX12_dearYears_0 : decode cX12_dearYears 0 = .ok (.aload_n 0, 1) := by decide +kernel
theorem dX12_dearYears_1 : decode cX12_dearYears 1 = .ok (.iload_n 1, 1) := by decide +kernel
theorem dX12_dearYears_2 : decode cX12_dearYears 2 = .ok (.invokevirtual 270, 3) := by decide +kernel
theorem dX12_dearYears_5 : decode cX12_dearYears 5 = .ok (.ifCond .ne 9, 3) := by decide +kernel
theorem dX12_dearYears_8 : decode cX12_dearYears 8 = .ok (.aload_n 0, 1) := by decide +kernel
theorem dX12_dearYears_9 : decode cX12_dearYears 9 = .ok (.iconst (-1), 1) := by decide +kernel
theorem dX12_dearYears_10 : decode cX12_dearYears 10 = .ok (.invokevirtual 113, 3) := by decide +kernel
theorem dX12_dearYears_13 : decode cX12_dearYears 13 = .ok (.ireturn, 1) := by decide +kernel
theorem dX12_dearYears_14 : decode cX12_dearYears 14 = .ok (.aload_n 0, 1) := by decide +kernel
theorem dX12_dearYears_15 : decode cX12_dearYears 15 = .ok (.invokevirtual 282, 3) := by decide +kernel
theorem dX12_dearYears_18 : decode cX12_dearYears 18 = .ok (.aload_n 0, 1) := by decide +kernel
theorem dX12_dearYears_19 : decode cX12_dearYears 19 = .ok (.iload_n 1, 1) := by decide +kernel
theorem dX12_dearYears_20 : decode cX12_dearYears 20 = .ok (.iconst 0, 1) := by decide +kernel
theorem dX12_dearYears_21 : decode cX12_dearYears 21 = .ok (.iconst 0, 1) := by decide +kernel
theorem dX12_dearYears_22 : decode cX12_dearYears 22 = .ok (.invokevirtual 288, 3) := by decide +kernel
theorem dX12_dearYears_25 : decode cX12_dearYears 25 = .ok (.istore_n 2, 1) := by decide +kernel
theorem dX12_dearYears_26 : decode cX12_dearYears 26 = .ok (.iload_n 2, 1) := by decide +kernel
theorem dX12_dearYears_27 : decode cX12_dearYears 27 = .ok (.bipush (-9), 2) := by decide +kernel
theorem dX12_dearYears_29 : decode cX12_dearYears 29 = .ok (.if_icmp .ne 6, 3) := by decide +kernel
theorem dX12_dearYears_32 : decode cX12_dearYears 32 = .ok (.bipush (-9), 2) := by decide +kernel
theorem dX12_dearYears_34 : decode cX12_dearYears 34 = .ok (.ireturn, 1) := by decide +kernel
theorem dX12_dearYears_35 : decode cX12_dearYears 35 = .ok (.iconst 0, 1) := by decide +kernel
theorem dX12_dearYears_36 : decode cX12_dearYears 36 = .ok (.istore_n 3, 1) := by decide +kernel
theorem dX12_dearYears_37 : decode cX12_dearYears 37 = .ok (.iconst 0, 1) := by decide +kernel
theorem dX12_dearYears_38 : decode cX12_dearYears 38 = .ok (.istore 4, 2) := by decide +kernel
theorem dX12_dearYears_40 : decode cX12_dearYears 40 = .ok (.iload 4, 2) := by decide +kernel
theorem dX12_dearYears_42 : decode cX12_dearYears 42 = .ok (.aload_n 0, 1) := by decide +kernel
theorem dX12_dearYears_43 : decode cX12_dearYears 43 = .ok (.getfield 330, 3) := by decide +kernel
theorem dX12_dearYears_46 : decode cX12_dearYears 46 = .ok (.if_icmp .ge 38, 3) := by decide +kernel
theorem dX12_dearYears_49 : decode cX12_dearYears 49 = .ok (.iload_n 3, 1) := by decide +kernel
theorem dX12_dearYears_50 : decode cX12_dearYears 50 = .ok (.aload_n 0, 1) := by decide +kernel
theorem dX12_dearYears_51 : decode cX12_dearYears 51 = .ok (.getfield 62, 3) := by decide +kernel
theorem dX12_dearYears_54 : decode cX12_dearYears 54 = .ok (.bipush 16, 2) := by decide +kernel
theorem dX12_dearYears_56 : decode cX12_dearYears 56 = .ok (.iload_n 1, 1) := by decide +kernel
theorem dX12_dearYears_57 : decode cX12_dearYears 57 = .ok (.imul, 1) := by decide +kernel
theorem dX12_dearYears_58 : decode cX12_dearYears 58 = .ok (.aload_n 0, 1) := by decide +kernel
theorem dX12_dearYears_59 : decode cX12_dearYears 59 = .ok (.getfield 80, 3) := by decide +kernel
theorem dX12_dearYears_62 : decode cX12_dearYears 62 = .ok (.iload 4, 2) := by decide +kernel
theorem dX12_dearYears_64 : decode cX12_dearYears 64 = .ok (.iaload, 1) := by decide +kernel
theorem dX12_dearYears_65 : decode cX12_dearYears 65 = .ok (.iadd, 1) := by decide +kernel
theorem dX12_dearYears_66 : decode cX12_dearYears 66 = .ok (.iaload, 1) := by decide +kernel
theorem dX12_dearYears_67 : decode cX12_dearYears 67 = .ok (.iload_n 2, 1) := by decide +kernel
theorem dX12_dearYears_68 : decode cX12_dearYears 68 = .ok (.if_icmp .le 7, 3) := by decide +kernel
theorem dX12_dearYears_71 : decode cX12_dearYears 71 = .ok (.iconst 1, 1) := by decide +kernel
theorem dX12_dearYears_72 : decode cX12_dearYears 72 = .ok (.goto 4, 3) := by decide +kernel
theorem dX12_dearYears_75 : decode cX12_dearYears 75 = .ok (.iconst 0, 1) := by decide +kernel
theorem dX12_dearYears_76 : decode cX12_dearYears 76 = .ok (.iadd, 1) := by decide +kernel
theorem dX12_dearYears_77 : decode cX12_dearYears 77 = .ok (.istore_n 3, 1) := by decide +kernel
theorem dX12_dearYears_78 : decode cX12_dearYears 78 = .ok (.iinc 4 1, 3) := by decide +kernel
theorem dX12_dearYears_81 : decode cX12_dearYears 81 = .ok (.goto (-41), 3) := by decide +kernel
theorem dX12_dearYears_84 : decode cX12_dearYears 84 = .ok (.iload_n 3, 1) := by decide +kernel
theorem dX12_dearYears_85 : decode cX12_dearYears 85 = .ok (.ireturn, 1) := by decide +kernel
theorem dX12_drawn_0 : decode cX12_drawn 0 = .ok (.iload_n 1, 1) := by decide +kernel
theorem dX12_drawn_1 : decode cX12_drawn 1 = .ok (.i2l, 1) := by decide +kernel
theorem dX12_drawn_2 : decode cX12_drawn 2 = .ok (.lconst 0, 1) := by decide +kernel
theorem dX12_drawn_3 : decode cX12_drawn 3 = .ok (.ldc2_w 333, 3) := by decide +kernel
theorem dX12_drawn_6 : decode cX12_drawn 6 = .ok (.invokestatic 137, 3) := by decide +kernel
theorem dX12_drawn_9 : decode cX12_drawn 9 = .ok (.istore_n 2, 1) := by decide +kernel
theorem dX12_drawn_10 : decode cX12_drawn 10 = .ok (.iload_n 2, 1) := by decide +kernel
theorem dX12_drawn_11 : decode cX12_drawn 11 = .ok (.ifCond .eq 9, 3) := by decide +kernel
theorem dX12_drawn_14 : decode cX12_drawn 14 = .ok (.aload_n 0, 1) := by decide +kernel
theorem dX12_drawn_15 : decode cX12_drawn 15 = .ok (.iload_n 2, 1) := by decide +kernel
theorem dX12_drawn_16 : decode cX12_drawn 16 = .ok (.invokevirtual 113, 3) := by decide +kernel
theorem dX12_drawn_19 : decode cX12_drawn 19 = .ok (.ireturn, 1) := by decide +kernel
theorem dX12_drawn_20 : decode cX12_drawn 20 = .ok (.aload_n 0, 1) := by decide +kernel
theorem dX12_drawn_21 : decode cX12_drawn 21 = .ok (.invokevirtual 282, 3) := by decide +kernel
theorem dX12_drawn_24 : decode cX12_drawn 24 = .ok (.iconst 0, 1) := by decide +kernel
theorem dX12_drawn_25 : decode cX12_drawn 25 = .ok (.istore_n 3, 1) := by decide +kernel
theorem dX12_drawn_26 : decode cX12_drawn 26 = .ok (.iload_n 3, 1) := by decide +kernel
theorem dX12_drawn_27 : decode cX12_drawn 27 = .ok (.iconst 5, 1) := by decide +kernel
theorem dX12_drawn_28 : decode cX12_drawn 28 = .ok (.if_icmp .ge 77, 3) := by decide +kernel
theorem dX12_drawn_31 : decode cX12_drawn 31 = .ok (.iconst 0, 1) := by decide +kernel
theorem dX12_drawn_32 : decode cX12_drawn 32 = .ok (.istore 4, 2) := by decide +kernel
theorem dX12_drawn_34 : decode cX12_drawn 34 = .ok (.iconst 0, 1) := by decide +kernel
theorem dX12_drawn_35 : decode cX12_drawn 35 = .ok (.istore 5, 2) := by decide +kernel
theorem dX12_drawn_37 : decode cX12_drawn 37 = .ok (.iload 5, 2) := by decide +kernel
theorem dX12_drawn_39 : decode cX12_drawn 39 = .ok (.aload_n 0, 1) := by decide +kernel
theorem dX12_drawn_40 : decode cX12_drawn 40 = .ok (.getfield 330, 3) := by decide +kernel
theorem dX12_drawn_43 : decode cX12_drawn 43 = .ok (.if_icmp .ge 48, 3) := by decide +kernel
theorem dX12_drawn_46 : decode cX12_drawn 46 = .ok (.iload 4, 2) := by decide +kernel
theorem dX12_drawn_48 : decode cX12_drawn 48 = .ok (.aload_n 0, 1) := by decide +kernel
theorem dX12_drawn_49 : decode cX12_drawn 49 = .ok (.getfield 71, 3) := by decide +kernel
theorem dX12_drawn_52 : decode cX12_drawn 52 = .ok (.aload_n 0, 1) := by decide +kernel
theorem dX12_drawn_53 : decode cX12_drawn 53 = .ok (.getfield 80, 3) := by decide +kernel
theorem dX12_drawn_56 : decode cX12_drawn 56 = .ok (.iload 5, 2) := by decide +kernel
theorem dX12_drawn_58 : decode cX12_drawn 58 = .ok (.iaload, 1) := by decide +kernel
theorem dX12_drawn_59 : decode cX12_drawn 59 = .ok (.baload, 1) := by decide +kernel
theorem dX12_drawn_60 : decode cX12_drawn 60 = .ok (.ifCond .eq 21, 3) := by decide +kernel
theorem dX12_drawn_63 : decode cX12_drawn 63 = .ok (.aload_n 0, 1) := by decide +kernel
theorem dX12_drawn_64 : decode cX12_drawn 64 = .ok (.getfield 80, 3) := by decide +kernel
theorem dX12_drawn_67 : decode cX12_drawn 67 = .ok (.iload 5, 2) := by decide +kernel
theorem dX12_drawn_69 : decode cX12_drawn 69 = .ok (.iaload, 1) := by decide +kernel
theorem dX12_drawn_70 : decode cX12_drawn 70 = .ok (.invokestatic 213, 3) := by decide +kernel
theorem dX12_drawn_73 : decode cX12_drawn 73 = .ok (.iload_n 3, 1) := by decide +kernel
theorem dX12_drawn_74 : decode cX12_drawn 74 = .ok (.if_icmp .gt 7, 3) := by decide +kernel
theorem dX12_drawn_77 : decode cX12_drawn 77 = .ok (.iconst 1, 1) := by decide +kernel
theorem dX12_drawn_78 : decode cX12_drawn 78 = .ok (.goto 4, 3) := by decide +kernel
theorem dX12_drawn_81 : decode cX12_drawn 81 = .ok (.iconst 0, 1) := by decide +kernel
theorem dX12_drawn_82 : decode cX12_drawn 82 = .ok (.iadd, 1) := by decide +kernel
theorem dX12_drawn_83 : decode cX12_drawn 83 = .ok (.istore 4, 2) := by decide +kernel
theorem dX12_drawn_85 : decode cX12_drawn 85 = .ok (.iinc 5 1, 3) := by decide +kernel
theorem dX12_drawn_88 : decode cX12_drawn 88 = .ok (.goto (-51), 3) := by decide +kernel
theorem dX12_drawn_91 : decode cX12_drawn 91 = .ok (.iload 4, 2) := by decide +kernel
theorem dX12_drawn_93 : decode cX12_drawn 93 = .ok (.iload_n 1, 1) := by decide +kernel
theorem dX12_drawn_94 : decode cX12_drawn 94 = .ok (.if_icmp .lt 5, 3) := by decide +kernel
theorem dX12_drawn_97 : decode cX12_drawn 97 = .ok (.iload_n 3, 1) := by decide +kernel
theorem dX12_drawn_98 : decode cX12_drawn 98 = .ok (.ireturn, 1) := by decide +kernel
theorem dX12_drawn_99 : decode cX12_drawn 99 = .ok (.iinc 3 1, 3) := by decide +kernel
theorem dX12_drawn_102 : decode cX12_drawn 102 = .ok (.goto (-76), 3) := by decide +kernel
theorem dX12_drawn_105 : decode cX12_drawn 105 = .ok (.bipush (-9), 2) := by decide +kernel
theorem dX12_drawn_107 : decode cX12_drawn 107 = .ok (.ireturn, 1) := by decide +kernel
theorem dX12_image_0 : decode cX12_image 0 = .ok (.aload_n 0, 1) := by decide +kernel
theorem dX12_image_1 : decode cX12_image 1 = .ok (.iconst 1, 1) := by decide +kernel
theorem dX12_image_2 : decode cX12_image 2 = .ok (.putfield 335, 3) := by decide +kernel
theorem dX12_image_5 : decode cX12_image 5 = .ok (.iconst 0, 1) := by decide +kernel
theorem dX12_image_6 : decode cX12_image 6 = .ok (.istore_n 1, 1) := by decide +kernel
theorem dX12_image_7 : decode cX12_image 7 = .ok (.iload_n 1, 1) := by decide +kernel
theorem dX12_image_8 : decode cX12_image 8 = .ok (.bipush 47, 2) := by decide +kernel
theorem dX12_image_10 : decode cX12_image 10 = .ok (.if_icmp .ge 21, 3) := by decide +kernel
theorem dX12_image_13 : decode cX12_image 13 = .ok (.aload_n 0, 1) := by decide +kernel
theorem dX12_image_14 : decode cX12_image 14 = .ok (.getfield 83, 3) := by decide +kernel
theorem dX12_image_17 : decode cX12_image 17 = .ok (.iload_n 1, 1) := by decide +kernel
theorem dX12_image_18 : decode cX12_image 18 = .ok (.aload_n 0, 1) := by decide +kernel
theorem dX12_image_19 : decode cX12_image 19 = .ok (.getfield 13, 3) := by decide +kernel
theorem dX12_image_22 : decode cX12_image 22 = .ok (.iload_n 1, 1) := by decide +kernel
theorem dX12_image_23 : decode cX12_image 23 = .ok (.iaload, 1) := by decide +kernel
theorem dX12_image_24 : decode cX12_image 24 = .ok (.iastore, 1) := by decide +kernel
theorem dX12_image_25 : decode cX12_image 25 = .ok (.iinc 1 1, 3) := by decide +kernel
theorem dX12_image_28 : decode cX12_image 28 = .ok (.goto (-21), 3) := by decide +kernel
theorem dX12_image_31 : decode cX12_image 31 = .ok (.iconst 0, 1) := by decide +kernel
theorem dX12_image_32 : decode cX12_image 32 = .ok (.istore_n 1, 1) := by decide +kernel
theorem dX12_image_33 : decode cX12_image 33 = .ok (.iload_n 1, 1) := by decide +kernel
theorem dX12_image_34 : decode cX12_image 34 = .ok (.sipush 480, 3) := by decide +kernel
theorem dX12_image_37 : decode cX12_image 37 = .ok (.if_icmp .ge 21, 3) := by decide +kernel
theorem dX12_image_40 : decode cX12_image 40 = .ok (.aload_n 0, 1) := by decide +kernel
theorem dX12_image_41 : decode cX12_image 41 = .ok (.getfield 86, 3) := by decide +kernel
theorem dX12_image_44 : decode cX12_image 44 = .ok (.iload_n 1, 1) := by decide +kernel
theorem dX12_image_45 : decode cX12_image 45 = .ok (.aload_n 0, 1) := by decide +kernel
theorem dX12_image_46 : decode cX12_image 46 = .ok (.getfield 25, 3) := by decide +kernel
theorem dX12_image_49 : decode cX12_image 49 = .ok (.iload_n 1, 1) := by decide +kernel
theorem dX12_image_50 : decode cX12_image 50 = .ok (.iaload, 1) := by decide +kernel
theorem dX12_image_51 : decode cX12_image 51 = .ok (.iastore, 1) := by decide +kernel
theorem dX12_image_52 : decode cX12_image 52 = .ok (.iinc 1 1, 3) := by decide +kernel
theorem dX12_image_55 : decode cX12_image 55 = .ok (.goto (-22), 3) := by decide +kernel
theorem dX12_image_58 : decode cX12_image 58 = .ok (.iconst 0, 1) := by decide +kernel
theorem dX12_image_59 : decode cX12_image 59 = .ok (.istore_n 1, 1) := by decide +kernel
theorem dX12_image_60 : decode cX12_image 60 = .ok (.iload_n 1, 1) := by decide +kernel
theorem dX12_image_61 : decode cX12_image 61 = .ok (.bipush 12, 2) := by decide +kernel
theorem dX12_image_63 : decode cX12_image 63 = .ok (.if_icmp .ge 33, 3) := by decide +kernel
theorem dX12_image_66 : decode cX12_image 66 = .ok (.aload_n 0, 1) := by decide +kernel
theorem dX12_image_67 : decode cX12_image 67 = .ok (.getfield 89, 3) := by decide +kernel
theorem dX12_image_70 : decode cX12_image 70 = .ok (.iload_n 1, 1) := by decide +kernel
theorem dX12_image_71 : decode cX12_image 71 = .ok (.aload_n 0, 1) := by decide +kernel
theorem dX12_image_72 : decode cX12_image 72 = .ok (.getfield 28, 3) := by decide +kernel
theorem dX12_image_75 : decode cX12_image 75 = .ok (.iload_n 1, 1) := by decide +kernel
theorem dX12_image_76 : decode cX12_image 76 = .ok (.iaload, 1) := by decide +kernel
theorem dX12_image_77 : decode cX12_image 77 = .ok (.iastore, 1) := by decide +kernel
theorem dX12_image_78 : decode cX12_image 78 = .ok (.aload_n 0, 1) := by decide +kernel
theorem dX12_image_79 : decode cX12_image 79 = .ok (.getfield 101, 3) := by decide +kernel
theorem dX12_image_82 : decode cX12_image 82 = .ok (.iload_n 1, 1) := by decide +kernel
theorem dX12_image_83 : decode cX12_image 83 = .ok (.aload_n 0, 1) := by decide +kernel
theorem dX12_image_84 : decode cX12_image 84 = .ok (.getfield 40, 3) := by decide +kernel
theorem dX12_image_87 : decode cX12_image 87 = .ok (.iload_n 1, 1) := by decide +kernel
theorem dX12_image_88 : decode cX12_image 88 = .ok (.baload, 1) := by decide +kernel
theorem dX12_image_89 : decode cX12_image 89 = .ok (.bastore, 1) := by decide +kernel
theorem dX12_image_90 : decode cX12_image 90 = .ok (.iinc 1 1, 3) := by decide +kernel
theorem dX12_image_93 : decode cX12_image 93 = .ok (.goto (-33), 3) := by decide +kernel
theorem dX12_image_96 : decode cX12_image 96 = .ok (.iconst 0, 1) := by decide +kernel
theorem dX12_image_97 : decode cX12_image 97 = .ok (.istore_n 1, 1) := by decide +kernel
theorem dX12_image_98 : decode cX12_image 98 = .ok (.iload_n 1, 1) := by decide +kernel
theorem dX12_image_99 : decode cX12_image 99 = .ok (.sipush 160, 3) := by decide +kernel
theorem dX12_image_102 : decode cX12_image 102 = .ok (.if_icmp .ge 21, 3) := by decide +kernel
theorem dX12_image_105 : decode cX12_image 105 = .ok (.aload_n 0, 1) := by decide +kernel
theorem dX12_image_106 : decode cX12_image 106 = .ok (.getfield 92, 3) := by decide +kernel
theorem dX12_image_109 : decode cX12_image 109 = .ok (.iload_n 1, 1) := by decide +kernel
theorem dX12_image_110 : decode cX12_image 110 = .ok (.aload_n 0, 1) := by decide +kernel
theorem dX12_image_111 : decode cX12_image 111 = .ok (.getfield 31, 3) := by decide +kernel
theorem dX12_image_114 : decode cX12_image 114 = .ok (.iload_n 1, 1) := by decide +kernel
theorem dX12_image_115 : decode cX12_image 115 = .ok (.iaload, 1) := by decide +kernel
theorem dX12_image_116 : decode cX12_image 116 = .ok (.iastore, 1) := by decide +kernel
theorem dX12_image_117 : decode cX12_image 117 = .ok (.iinc 1 1, 3) := by decide +kernel
theorem dX12_image_120 : decode cX12_image 120 = .ok (.goto (-22), 3) := by decide +kernel
theorem dX12_image_123 : decode cX12_image 123 = .ok (.iconst 0, 1) := by decide +kernel
theorem dX12_image_124 : decode cX12_image 124 = .ok (.istore_n 1, 1) := by decide +kernel
theorem dX12_image_125 : decode cX12_image 125 = .ok (.iload_n 1, 1) := by decide +kernel
theorem dX12_image_126 : decode cX12_image 126 = .ok (.iconst 4, 1) := by decide +kernel
theorem dX12_image_127 : decode cX12_image 127 = .ok (.if_icmp .ge 33, 3) := by decide +kernel
theorem dX12_image_130 : decode cX12_image 130 = .ok (.aload_n 0, 1) := by decide +kernel
theorem dX12_image_131 : decode cX12_image 131 = .ok (.getfield 95, 3) := by decide +kernel
theorem dX12_image_134 : decode cX12_image 134 = .ok (.iload_n 1, 1) := by decide +kernel
theorem dX12_image_135 : decode cX12_image 135 = .ok (.aload_n 0, 1) := by decide +kernel
theorem dX12_image_136 : decode cX12_image 136 = .ok (.getfield 34, 3) := by decide +kernel
theorem dX12_image_139 : decode cX12_image 139 = .ok (.iload_n 1, 1) := by decide +kernel
theorem dX12_image_140 : decode cX12_image 140 = .ok (.iaload, 1) := by decide +kernel
theorem dX12_image_141 : decode cX12_image 141 = .ok (.iastore, 1) := by decide +kernel
theorem dX12_image_142 : decode cX12_image 142 = .ok (.aload_n 0, 1) := by decide +kernel
theorem dX12_image_143 : decode cX12_image 143 = .ok (.getfield 104, 3) := by decide +kernel
theorem dX12_image_146 : decode cX12_image 146 = .ok (.iload_n 1, 1) := by decide +kernel
theorem dX12_image_147 : decode cX12_image 147 = .ok (.aload_n 0, 1) := by decide +kernel
theorem dX12_image_148 : decode cX12_image 148 = .ok (.getfield 44, 3) := by decide +kernel
theorem dX12_image_151 : decode cX12_image 151 = .ok (.iload_n 1, 1) := by decide +kernel
theorem dX12_image_152 : decode cX12_image 152 = .ok (.baload, 1) := by decide +kernel
theorem dX12_image_153 : decode cX12_image 153 = .ok (.bastore, 1) := by decide +kernel
theorem dX12_image_154 : decode cX12_image 154 = .ok (.iinc 1 1, 3) := by decide +kernel
theorem dX12_image_157 : decode cX12_image 157 = .ok (.goto (-32), 3) := by decide +kernel
theorem dX12_image_160 : decode cX12_image 160 = .ok (.iconst 0, 1) := by decide +kernel
theorem dX12_image_161 : decode cX12_image 161 = .ok (.istore_n 1, 1) := by decide +kernel
theorem dX12_image_162 : decode cX12_image 162 = .ok (.iload_n 1, 1) := by decide +kernel
theorem dX12_image_163 : decode cX12_image 163 = .ok (.bipush 60, 2) := by decide +kernel
theorem dX12_image_165 : decode cX12_image 165 = .ok (.if_icmp .ge 21, 3) := by decide +kernel
theorem dX12_image_168 : decode cX12_image 168 = .ok (.aload_n 0, 1) := by decide +kernel
theorem dX12_image_169 : decode cX12_image 169 = .ok (.getfield 98, 3) := by decide +kernel
theorem dX12_image_172 : decode cX12_image 172 = .ok (.iload_n 1, 1) := by decide +kernel
theorem dX12_image_173 : decode cX12_image 173 = .ok (.aload_n 0, 1) := by decide +kernel
theorem dX12_image_174 : decode cX12_image 174 = .ok (.getfield 80, 3) := by decide +kernel
theorem dX12_image_177 : decode cX12_image 177 = .ok (.iload_n 1, 1) := by decide +kernel
theorem dX12_image_178 : decode cX12_image 178 = .ok (.iaload, 1) := by decide +kernel
theorem dX12_image_179 : decode cX12_image 179 = .ok (.iastore, 1) := by decide +kernel
theorem dX12_image_180 : decode cX12_image 180 = .ok (.iinc 1 1, 3) := by decide +kernel
theorem dX12_image_183 : decode cX12_image 183 = .ok (.goto (-21), 3) := by decide +kernel
theorem dX12_image_186 : decode cX12_image 186 = .ok (.aload_n 0, 1) := by decide +kernel
theorem dX12_image_187 : decode cX12_image 187 = .ok (.aload_n 0, 1) := by decide +kernel
theorem dX12_image_188 : decode cX12_image 188 = .ok (.getfield 186, 3) := by decide +kernel
theorem dX12_image_191 : decode cX12_image 191 = .ok (.putfield 338, 3) := by decide +kernel
theorem dX12_image_194 : decode cX12_image 194 = .ok (.aload_n 0, 1) := by decide +kernel
theorem dX12_image_195 : decode cX12_image 195 = .ok (.aload_n 0, 1) := by decide +kernel
theorem dX12_image_196 : decode cX12_image 196 = .ok (.getfield 330, 3) := by decide +kernel
theorem dX12_image_199 : decode cX12_image 199 = .ok (.putfield 341, 3) := by decide +kernel
theorem dX12_image_202 : decode cX12_image 202 = .ok (.aload_n 0, 1) := by decide +kernel
theorem dX12_image_203 : decode cX12_image 203 = .ok (.invokevirtual 344, 3) := by decide +kernel
theorem dX12_image_206 : decode cX12_image 206 = .ok (.ireturn, 1) := by decide +kernel
theorem dX12_restore_0 : decode cX12_restore 0 = .ok (.aload_n 0, 1) := by decide +kernel
theorem dX12_restore_1 : decode cX12_restore 1 = .ok (.getfield 335, 3) := by decide +kernel
theorem dX12_restore_4 : decode cX12_restore 4 = .ok (.ifCond .ne 10, 3) := by decide +kernel
theorem dX12_restore_7 : decode cX12_restore 7 = .ok (.aload_n 0, 1) := by decide +kernel
theorem dX12_restore_8 : decode cX12_restore 8 = .ok (.bipush (-3), 2) := by decide +kernel
theorem dX12_restore_10 : decode cX12_restore 10 = .ok (.invokevirtual 113, 3) := by decide +kernel
theorem dX12_restore_13 : decode cX12_restore 13 = .ok (.ireturn, 1) := by decide +kernel
theorem dX12_restore_14 : decode cX12_restore 14 = .ok (.iconst 0, 1) := by decide +kernel
theorem dX12_restore_15 : decode cX12_restore 15 = .ok (.istore_n 1, 1) := by decide +kernel
theorem dX12_restore_16 : decode cX12_restore 16 = .ok (.iload_n 1, 1) := by decide +kernel
theorem dX12_restore_17 : decode cX12_restore 17 = .ok (.bipush 47, 2) := by decide +kernel
theorem dX12_restore_19 : decode cX12_restore 19 = .ok (.if_icmp .ge 21, 3) := by decide +kernel
theorem dX12_restore_22 : decode cX12_restore 22 = .ok (.aload_n 0, 1) := by decide +kernel
theorem dX12_restore_23 : decode cX12_restore 23 = .ok (.getfield 13, 3) := by decide +kernel
theorem dX12_restore_26 : decode cX12_restore 26 = .ok (.iload_n 1, 1) := by decide +kernel
theorem dX12_restore_27 : decode cX12_restore 27 = .ok (.aload_n 0, 1) := by decide +kernel
theorem dX12_restore_28 : decode cX12_restore 28 = .ok (.getfield 83, 3) := by decide +kernel
theorem dX12_restore_31 : decode cX12_restore 31 = .ok (.iload_n 1, 1) := by decide +kernel
theorem dX12_restore_32 : decode cX12_restore 32 = .ok (.iaload, 1) := by decide +kernel
theorem dX12_restore_33 : decode cX12_restore 33 = .ok (.iastore, 1) := by decide +kernel
theorem dX12_restore_34 : decode cX12_restore 34 = .ok (.iinc 1 1, 3) := by decide +kernel
theorem dX12_restore_37 : decode cX12_restore 37 = .ok (.goto (-21), 3) := by decide +kernel
theorem dX12_restore_40 : decode cX12_restore 40 = .ok (.iconst 0, 1) := by decide +kernel
theorem dX12_restore_41 : decode cX12_restore 41 = .ok (.istore_n 1, 1) := by decide +kernel
theorem dX12_restore_42 : decode cX12_restore 42 = .ok (.iload_n 1, 1) := by decide +kernel
theorem dX12_restore_43 : decode cX12_restore 43 = .ok (.sipush 480, 3) := by decide +kernel
theorem dX12_restore_46 : decode cX12_restore 46 = .ok (.if_icmp .ge 21, 3) := by decide +kernel
theorem dX12_restore_49 : decode cX12_restore 49 = .ok (.aload_n 0, 1) := by decide +kernel
theorem dX12_restore_50 : decode cX12_restore 50 = .ok (.getfield 25, 3) := by decide +kernel
theorem dX12_restore_53 : decode cX12_restore 53 = .ok (.iload_n 1, 1) := by decide +kernel
theorem dX12_restore_54 : decode cX12_restore 54 = .ok (.aload_n 0, 1) := by decide +kernel
theorem dX12_restore_55 : decode cX12_restore 55 = .ok (.getfield 86, 3) := by decide +kernel
theorem dX12_restore_58 : decode cX12_restore 58 = .ok (.iload_n 1, 1) := by decide +kernel
theorem dX12_restore_59 : decode cX12_restore 59 = .ok (.iaload, 1) := by decide +kernel
theorem dX12_restore_60 : decode cX12_restore 60 = .ok (.iastore, 1) := by decide +kernel
theorem dX12_restore_61 : decode cX12_restore 61 = .ok (.iinc 1 1, 3) := by decide +kernel
theorem dX12_restore_64 : decode cX12_restore 64 = .ok (.goto (-22), 3) := by decide +kernel
theorem dX12_restore_67 : decode cX12_restore 67 = .ok (.iconst 0, 1) := by decide +kernel
theorem dX12_restore_68 : decode cX12_restore 68 = .ok (.istore_n 1, 1) := by decide +kernel
theorem dX12_restore_69 : decode cX12_restore 69 = .ok (.iload_n 1, 1) := by decide +kernel
theorem dX12_restore_70 : decode cX12_restore 70 = .ok (.bipush 12, 2) := by decide +kernel
theorem dX12_restore_72 : decode cX12_restore 72 = .ok (.if_icmp .ge 33, 3) := by decide +kernel
theorem dX12_restore_75 : decode cX12_restore 75 = .ok (.aload_n 0, 1) := by decide +kernel
theorem dX12_restore_76 : decode cX12_restore 76 = .ok (.getfield 28, 3) := by decide +kernel
theorem dX12_restore_79 : decode cX12_restore 79 = .ok (.iload_n 1, 1) := by decide +kernel
theorem dX12_restore_80 : decode cX12_restore 80 = .ok (.aload_n 0, 1) := by decide +kernel
theorem dX12_restore_81 : decode cX12_restore 81 = .ok (.getfield 89, 3) := by decide +kernel
theorem dX12_restore_84 : decode cX12_restore 84 = .ok (.iload_n 1, 1) := by decide +kernel
theorem dX12_restore_85 : decode cX12_restore 85 = .ok (.iaload, 1) := by decide +kernel
theorem dX12_restore_86 : decode cX12_restore 86 = .ok (.iastore, 1) := by decide +kernel
theorem dX12_restore_87 : decode cX12_restore 87 = .ok (.aload_n 0, 1) := by decide +kernel
theorem dX12_restore_88 : decode cX12_restore 88 = .ok (.getfield 40, 3) := by decide +kernel
theorem dX12_restore_91 : decode cX12_restore 91 = .ok (.iload_n 1, 1) := by decide +kernel
theorem dX12_restore_92 : decode cX12_restore 92 = .ok (.aload_n 0, 1) := by decide +kernel
theorem dX12_restore_93 : decode cX12_restore 93 = .ok (.getfield 101, 3) := by decide +kernel
theorem dX12_restore_96 : decode cX12_restore 96 = .ok (.iload_n 1, 1) := by decide +kernel
theorem dX12_restore_97 : decode cX12_restore 97 = .ok (.baload, 1) := by decide +kernel
theorem dX12_restore_98 : decode cX12_restore 98 = .ok (.bastore, 1) := by decide +kernel
theorem dX12_restore_99 : decode cX12_restore 99 = .ok (.iinc 1 1, 3) := by decide +kernel
theorem dX12_restore_102 : decode cX12_restore 102 = .ok (.goto (-33), 3) := by decide +kernel
theorem dX12_restore_105 : decode cX12_restore 105 = .ok (.iconst 0, 1) := by decide +kernel
theorem dX12_restore_106 : decode cX12_restore 106 = .ok (.istore_n 1, 1) := by decide +kernel
theorem dX12_restore_107 : decode cX12_restore 107 = .ok (.iload_n 1, 1) := by decide +kernel
theorem dX12_restore_108 : decode cX12_restore 108 = .ok (.sipush 160, 3) := by decide +kernel
theorem dX12_restore_111 : decode cX12_restore 111 = .ok (.if_icmp .ge 21, 3) := by decide +kernel
theorem dX12_restore_114 : decode cX12_restore 114 = .ok (.aload_n 0, 1) := by decide +kernel
theorem dX12_restore_115 : decode cX12_restore 115 = .ok (.getfield 31, 3) := by decide +kernel
theorem dX12_restore_118 : decode cX12_restore 118 = .ok (.iload_n 1, 1) := by decide +kernel
theorem dX12_restore_119 : decode cX12_restore 119 = .ok (.aload_n 0, 1) := by decide +kernel
theorem dX12_restore_120 : decode cX12_restore 120 = .ok (.getfield 92, 3) := by decide +kernel
theorem dX12_restore_123 : decode cX12_restore 123 = .ok (.iload_n 1, 1) := by decide +kernel
theorem dX12_restore_124 : decode cX12_restore 124 = .ok (.iaload, 1) := by decide +kernel
theorem dX12_restore_125 : decode cX12_restore 125 = .ok (.iastore, 1) := by decide +kernel
theorem dX12_restore_126 : decode cX12_restore 126 = .ok (.iinc 1 1, 3) := by decide +kernel
theorem dX12_restore_129 : decode cX12_restore 129 = .ok (.goto (-22), 3) := by decide +kernel
theorem dX12_restore_132 : decode cX12_restore 132 = .ok (.iconst 0, 1) := by decide +kernel
theorem dX12_restore_133 : decode cX12_restore 133 = .ok (.istore_n 1, 1) := by decide +kernel
theorem dX12_restore_134 : decode cX12_restore 134 = .ok (.iload_n 1, 1) := by decide +kernel
theorem dX12_restore_135 : decode cX12_restore 135 = .ok (.iconst 4, 1) := by decide +kernel
theorem dX12_restore_136 : decode cX12_restore 136 = .ok (.if_icmp .ge 33, 3) := by decide +kernel
theorem dX12_restore_139 : decode cX12_restore 139 = .ok (.aload_n 0, 1) := by decide +kernel
theorem dX12_restore_140 : decode cX12_restore 140 = .ok (.getfield 34, 3) := by decide +kernel
theorem dX12_restore_143 : decode cX12_restore 143 = .ok (.iload_n 1, 1) := by decide +kernel
theorem dX12_restore_144 : decode cX12_restore 144 = .ok (.aload_n 0, 1) := by decide +kernel
theorem dX12_restore_145 : decode cX12_restore 145 = .ok (.getfield 95, 3) := by decide +kernel
theorem dX12_restore_148 : decode cX12_restore 148 = .ok (.iload_n 1, 1) := by decide +kernel
theorem dX12_restore_149 : decode cX12_restore 149 = .ok (.iaload, 1) := by decide +kernel
theorem dX12_restore_150 : decode cX12_restore 150 = .ok (.iastore, 1) := by decide +kernel
theorem dX12_restore_151 : decode cX12_restore 151 = .ok (.aload_n 0, 1) := by decide +kernel
theorem dX12_restore_152 : decode cX12_restore 152 = .ok (.getfield 44, 3) := by decide +kernel
theorem dX12_restore_155 : decode cX12_restore 155 = .ok (.iload_n 1, 1) := by decide +kernel
theorem dX12_restore_156 : decode cX12_restore 156 = .ok (.aload_n 0, 1) := by decide +kernel
theorem dX12_restore_157 : decode cX12_restore 157 = .ok (.getfield 104, 3) := by decide +kernel
theorem dX12_restore_160 : decode cX12_restore 160 = .ok (.iload_n 1, 1) := by decide +kernel
theorem dX12_restore_161 : decode cX12_restore 161 = .ok (.baload, 1) := by decide +kernel
theorem dX12_restore_162 : decode cX12_restore 162 = .ok (.bastore, 1) := by decide +kernel
theorem dX12_restore_163 : decode cX12_restore 163 = .ok (.iinc 1 1, 3) := by decide +kernel
theorem dX12_restore_166 : decode cX12_restore 166 = .ok (.goto (-32), 3) := by decide +kernel
theorem dX12_restore_169 : decode cX12_restore 169 = .ok (.iconst 0, 1) := by decide +kernel
theorem dX12_restore_170 : decode cX12_restore 170 = .ok (.istore_n 1, 1) := by decide +kernel
theorem dX12_restore_171 : decode cX12_restore 171 = .ok (.iload_n 1, 1) := by decide +kernel
theorem dX12_restore_172 : decode cX12_restore 172 = .ok (.bipush 60, 2) := by decide +kernel
theorem dX12_restore_174 : decode cX12_restore 174 = .ok (.if_icmp .ge 21, 3) := by decide +kernel
theorem dX12_restore_177 : decode cX12_restore 177 = .ok (.aload_n 0, 1) := by decide +kernel
theorem dX12_restore_178 : decode cX12_restore 178 = .ok (.getfield 80, 3) := by decide +kernel
theorem dX12_restore_181 : decode cX12_restore 181 = .ok (.iload_n 1, 1) := by decide +kernel
theorem dX12_restore_182 : decode cX12_restore 182 = .ok (.aload_n 0, 1) := by decide +kernel
theorem dX12_restore_183 : decode cX12_restore 183 = .ok (.getfield 98, 3) := by decide +kernel
theorem dX12_restore_186 : decode cX12_restore 186 = .ok (.iload_n 1, 1) := by decide +kernel
theorem dX12_restore_187 : decode cX12_restore 187 = .ok (.iaload, 1) := by decide +kernel
theorem dX12_restore_188 : decode cX12_restore 188 = .ok (.iastore, 1) := by decide +kernel
theorem dX12_restore_189 : decode cX12_restore 189 = .ok (.iinc 1 1, 3) := by decide +kernel
theorem dX12_restore_192 : decode cX12_restore 192 = .ok (.goto (-21), 3) := by decide +kernel
theorem dX12_restore_195 : decode cX12_restore 195 = .ok (.aload_n 0, 1) := by decide +kernel
theorem dX12_restore_196 : decode cX12_restore 196 = .ok (.aload_n 0, 1) := by decide +kernel
theorem dX12_restore_197 : decode cX12_restore 197 = .ok (.getfield 338, 3) := by decide +kernel
theorem dX12_restore_200 : decode cX12_restore 200 = .ok (.putfield 186, 3) := by decide +kernel
theorem dX12_restore_203 : decode cX12_restore 203 = .ok (.aload_n 0, 1) := by decide +kernel
theorem dX12_restore_204 : decode cX12_restore 204 = .ok (.aload_n 0, 1) := by decide +kernel
theorem dX12_restore_205 : decode cX12_restore 205 = .ok (.getfield 341, 3) := by decide +kernel
theorem dX12_restore_208 : decode cX12_restore 208 = .ok (.putfield 330, 3) := by decide +kernel
theorem dX12_restore_211 : decode cX12_restore 211 = .ok (.aload_n 0, 1) := by decide +kernel
theorem dX12_restore_212 : decode cX12_restore 212 = .ok (.iconst 0, 1) := by decide +kernel
theorem dX12_restore_213 : decode cX12_restore 213 = .ok (.putfield 125, 3) := by decide +kernel
theorem dX12_restore_216 : decode cX12_restore 216 = .ok (.aload_n 0, 1) := by decide +kernel
theorem dX12_restore_217 : decode cX12_restore 217 = .ok (.iconst 0, 1) := by decide +kernel
theorem dX12_restore_218 : decode cX12_restore 218 = .ok (.putfield 121, 3) := by decide +kernel
theorem dX12_restore_221 : decode cX12_restore 221 = .ok (.aload_n 0, 1) := by decide +kernel
theorem dX12_restore_222 : decode cX12_restore 222 = .ok (.invokevirtual 344, 3) := by decide +kernel
theorem dX12_restore_225 : decode cX12_restore 225 = .ok (.ireturn, 1) := by decide +kernel
theorem dX12_count_0 : decode cX12_count 0 = .ok (.iload_n 1, 1) := by decide +kernel
theorem dX12_count_1 : decode cX12_count 1 = .ok (.i2l, 1) := by decide +kernel
theorem dX12_count_2 : decode cX12_count 2 = .ok (.ldc2_w 347, 3) := by decide +kernel
theorem dX12_count_5 : decode cX12_count 5 = .ok (.ldc2_w 349, 3) := by decide +kernel
theorem dX12_count_8 : decode cX12_count 8 = .ok (.invokestatic 109, 3) := by decide +kernel
theorem dX12_count_11 : decode cX12_count 11 = .ok (.ifCond .eq 13, 3) := by decide +kernel
theorem dX12_count_14 : decode cX12_count 14 = .ok (.aload_n 0, 1) := by decide +kernel
theorem dX12_count_15 : decode cX12_count 15 = .ok (.getfield 7, 3) := by decide +kernel
theorem dX12_count_18 : decode cX12_count 18 = .ok (.iload_n 1, 1) := by decide +kernel
theorem dX12_count_19 : decode cX12_count 19 = .ok (.bipush 10, 2) := by decide +kernel
theorem dX12_count_21 : decode cX12_count 21 = .ok (.isub, 1) := by decide +kernel
theorem dX12_count_22 : decode cX12_count 22 = .ok (.iaload, 1) := by decide +kernel
theorem dX12_count_23 : decode cX12_count 23 = .ok (.ireturn, 1) := by decide +kernel
theorem dX12_count_24 : decode cX12_count 24 = .ok (.iconst 0, 1) := by decide +kernel
theorem dX12_count_25 : decode cX12_count 25 = .ok (.istore_n 2, 1) := by decide +kernel
theorem dX12_count_26 : decode cX12_count 26 = .ok (.iload_n 1, 1) := by decide +kernel
theorem dX12_count_27 : decode cX12_count 27 = .ok (.tableswitch 183 0 8 #[49, 54, 59, 94, 126, 163, 168, 173, 178], 49) := by decide +kernel
theorem dX12_count_76 : decode cX12_count 76 = .ok (.aload_n 0, 1) := by decide +kernel
theorem dX12_count_77 : decode cX12_count 77 = .ok (.invokevirtual 344, 3) := by decide +kernel
theorem dX12_count_80 : decode cX12_count 80 = .ok (.ireturn, 1) := by decide +kernel
theorem dX12_count_81 : decode cX12_count 81 = .ok (.aload_n 0, 1) := by decide +kernel
theorem dX12_count_82 : decode cX12_count 82 = .ok (.getfield 186, 3) := by decide +kernel
theorem dX12_count_85 : decode cX12_count 85 = .ok (.ireturn, 1) := by decide +kernel
theorem dX12_count_86 : decode cX12_count 86 = .ok (.iconst 0, 1) := by decide +kernel
theorem dX12_count_87 : decode cX12_count 87 = .ok (.istore_n 3, 1) := by decide +kernel
theorem dX12_count_88 : decode cX12_count 88 = .ok (.iload_n 3, 1) := by decide +kernel
theorem dX12_count_89 : decode cX12_count 89 = .ok (.aload_n 0, 1) := by decide +kernel
theorem dX12_count_90 : decode cX12_count 90 = .ok (.getfield 186, 3) := by decide +kernel
theorem dX12_count_93 : decode cX12_count 93 = .ok (.if_icmp .ge 26, 3) := by decide +kernel
theorem dX12_count_96 : decode cX12_count 96 = .ok (.iload_n 2, 1) := by decide +kernel
theorem dX12_count_97 : decode cX12_count 97 = .ok (.aload_n 0, 1) := by decide +kernel
theorem dX12_count_98 : decode cX12_count 98 = .ok (.getfield 40, 3) := by decide +kernel
theorem dX12_count_101 : decode cX12_count 101 = .ok (.iload_n 3, 1) := by decide +kernel
theorem dX12_count_102 : decode cX12_count 102 = .ok (.baload, 1) := by decide +kernel
theorem dX12_count_103 : decode cX12_count 103 = .ok (.ifCond .eq 7, 3) := by decide +kernel
theorem dX12_count_106 : decode cX12_count 106 = .ok (.iconst 0, 1) := by decide +kernel
theorem dX12_count_107 : decode cX12_count 107 = .ok (.goto 4, 3) := by decide +kernel
theorem dX12_count_110 : decode cX12_count 110 = .ok (.iconst 1, 1) := by decide +kernel
theorem dX12_count_111 : decode cX12_count 111 = .ok (.iadd, 1) := by decide +kernel
theorem dX12_count_112 : decode cX12_count 112 = .ok (.istore_n 2, 1) := by decide +kernel
theorem dX12_count_113 : decode cX12_count 113 = .ok (.iinc 3 1, 3) := by decide +kernel
theorem dX12_count_116 : decode cX12_count 116 = .ok (.goto (-28), 3) := by decide +kernel
theorem dX12_count_119 : decode cX12_count 119 = .ok (.iload_n 2, 1) := by decide +kernel
theorem dX12_count_120 : decode cX12_count 120 = .ok (.ireturn, 1) := by decide +kernel
theorem dX12_count_121 : decode cX12_count 121 = .ok (.iconst 0, 1) := by decide +kernel
theorem dX12_count_122 : decode cX12_count 122 = .ok (.istore_n 3, 1) := by decide +kernel
theorem dX12_count_123 : decode cX12_count 123 = .ok (.iload_n 3, 1) := by decide +kernel
theorem dX12_count_124 : decode cX12_count 124 = .ok (.iconst 4, 1) := by decide +kernel
theorem dX12_count_125 : decode cX12_count 125 = .ok (.if_icmp .ge 26, 3) := by decide +kernel
theorem dX12_count_128 : decode cX12_count 128 = .ok (.iload_n 2, 1) := by decide +kernel
theorem dX12_count_129 : decode cX12_count 129 = .ok (.aload_n 0, 1) := by decide +kernel
theorem dX12_count_130 : decode cX12_count 130 = .ok (.getfield 44, 3) := by decide +kernel
theorem dX12_count_133 : decode cX12_count 133 = .ok (.iload_n 3, 1) := by decide +kernel
theorem dX12_count_134 : decode cX12_count 134 = .ok (.baload, 1) := by decide +kernel
theorem dX12_count_135 : decode cX12_count 135 = .ok (.ifCond .eq 7, 3) := by decide +kernel
theorem dX12_count_138 : decode cX12_count 138 = .ok (.iconst 1, 1) := by decide +kernel
theorem dX12_count_139 : decode cX12_count 139 = .ok (.goto 4, 3) := by decide +kernel
theorem dX12_count_142 : decode cX12_count 142 = .ok (.iconst 0, 1) := by decide +kernel
theorem dX12_count_143 : decode cX12_count 143 = .ok (.iadd, 1) := by decide +kernel
theorem dX12_count_144 : decode cX12_count 144 = .ok (.istore_n 2, 1) := by decide +kernel
theorem dX12_count_145 : decode cX12_count 145 = .ok (.iinc 3 1, 3) := by decide +kernel
theorem dX12_count_148 : decode cX12_count 148 = .ok (.goto (-25), 3) := by decide +kernel
theorem dX12_count_151 : decode cX12_count 151 = .ok (.iload_n 2, 1) := by decide +kernel
theorem dX12_count_152 : decode cX12_count 152 = .ok (.ireturn, 1) := by decide +kernel
theorem dX12_count_153 : decode cX12_count 153 = .ok (.aload_n 0, 1) := by decide +kernel
theorem dX12_count_154 : decode cX12_count 154 = .ok (.invokevirtual 282, 3) := by decide +kernel
theorem dX12_count_157 : decode cX12_count 157 = .ok (.iconst 0, 1) := by decide +kernel
theorem dX12_count_158 : decode cX12_count 158 = .ok (.istore_n 3, 1) := by decide +kernel
theorem dX12_count_159 : decode cX12_count 159 = .ok (.iload_n 3, 1) := by decide +kernel
theorem dX12_count_160 : decode cX12_count 160 = .ok (.bipush 16, 2) := by decide +kernel
theorem dX12_count_162 : decode cX12_count 162 = .ok (.if_icmp .ge 26, 3) := by decide +kernel
theorem dX12_count_165 : decode cX12_count 165 = .ok (.iload_n 2, 1) := by decide +kernel
theorem dX12_count_166 : decode cX12_count 166 = .ok (.aload_n 0, 1) := by decide +kernel
theorem dX12_count_167 : decode cX12_count 167 = .ok (.getfield 65, 3) := by decide +kernel
theorem dX12_count_170 : decode cX12_count 170 = .ok (.iload_n 3, 1) := by decide +kernel
theorem dX12_count_171 : decode cX12_count 171 = .ok (.baload, 1) := by decide +kernel
theorem dX12_count_172 : decode cX12_count 172 = .ok (.ifCond .eq 7, 3) := by decide +kernel
theorem dX12_count_175 : decode cX12_count 175 = .ok (.iconst 1, 1) := by decide +kernel
theorem dX12_count_176 : decode cX12_count 176 = .ok (.goto 4, 3) := by decide +kernel
theorem dX12_count_179 : decode cX12_count 179 = .ok (.iconst 0, 1) := by decide +kernel
theorem dX12_count_180 : decode cX12_count 180 = .ok (.iadd, 1) := by decide +kernel
theorem dX12_count_181 : decode cX12_count 181 = .ok (.istore_n 2, 1) := by decide +kernel
theorem dX12_count_182 : decode cX12_count 182 = .ok (.iinc 3 1, 3) := by decide +kernel
theorem dX12_count_185 : decode cX12_count 185 = .ok (.goto (-26), 3) := by decide +kernel
theorem dX12_count_188 : decode cX12_count 188 = .ok (.iload_n 2, 1) := by decide +kernel
theorem dX12_count_189 : decode cX12_count 189 = .ok (.ireturn, 1) := by decide +kernel
theorem dX12_count_190 : decode cX12_count 190 = .ok (.aload_n 0, 1) := by decide +kernel
theorem dX12_count_191 : decode cX12_count 191 = .ok (.getfield 330, 3) := by decide +kernel
theorem dX12_count_194 : decode cX12_count 194 = .ok (.ireturn, 1) := by decide +kernel
theorem dX12_count_195 : decode cX12_count 195 = .ok (.aload_n 0, 1) := by decide +kernel
theorem dX12_count_196 : decode cX12_count 196 = .ok (.getfield 160, 3) := by decide +kernel
theorem dX12_count_199 : decode cX12_count 199 = .ok (.ireturn, 1) := by decide +kernel
theorem dX12_count_200 : decode cX12_count 200 = .ok (.aload_n 0, 1) := by decide +kernel
theorem dX12_count_201 : decode cX12_count 201 = .ok (.getfield 313, 3) := by decide +kernel
theorem dX12_count_204 : decode cX12_count 204 = .ok (.ireturn, 1) := by decide +kernel
theorem dX12_count_205 : decode cX12_count 205 = .ok (.aload_n 0, 1) := by decide +kernel
theorem dX12_count_206 : decode cX12_count 206 = .ok (.getfield 125, 3) := by decide +kernel
theorem dX12_count_209 : decode cX12_count 209 = .ok (.ireturn, 1) := by decide +kernel
theorem dX12_count_210 : decode cX12_count 210 = .ok (.bipush (-9), 2) := by decide +kernel
theorem dX12_count_212 : decode cX12_count 212 = .ok (.ireturn, 1) := by decide +kernel
theorem dJ6_bitCount_0f7a4_0 : decode cJ6_bitCount_0f7a4 0 = .ok (.iload_n 0, 1) := by decide +kernel
theorem dJ6_bitCount_0f7a4_1 : decode cJ6_bitCount_0f7a4 1 = .ok (.iload_n 0, 1) := by decide +kernel
theorem dJ6_bitCount_0f7a4_2 : decode cJ6_bitCount_0f7a4 2 = .ok (.iconst 1, 1) := by decide +kernel
theorem dJ6_bitCount_0f7a4_3 : decode cJ6_bitCount_0f7a4 3 = .ok (.iushr, 1) := by decide +kernel
theorem dJ6_bitCount_0f7a4_4 : decode cJ6_bitCount_0f7a4 4 = .ok (.ldc_w 265, 3) := by decide +kernel
theorem dJ6_bitCount_0f7a4_7 : decode cJ6_bitCount_0f7a4 7 = .ok (.iand, 1) := by decide +kernel
theorem dJ6_bitCount_0f7a4_8 : decode cJ6_bitCount_0f7a4 8 = .ok (.isub, 1) := by decide +kernel
theorem dJ6_bitCount_0f7a4_9 : decode cJ6_bitCount_0f7a4 9 = .ok (.istore_n 0, 1) := by decide +kernel
theorem dJ6_bitCount_0f7a4_10 : decode cJ6_bitCount_0f7a4 10 = .ok (.iload_n 0, 1) := by decide +kernel
theorem dJ6_bitCount_0f7a4_11 : decode cJ6_bitCount_0f7a4 11 = .ok (.ldc_w 266, 3) := by decide +kernel
theorem dJ6_bitCount_0f7a4_14 : decode cJ6_bitCount_0f7a4 14 = .ok (.iand, 1) := by decide +kernel
theorem dJ6_bitCount_0f7a4_15 : decode cJ6_bitCount_0f7a4 15 = .ok (.iload_n 0, 1) := by decide +kernel
theorem dJ6_bitCount_0f7a4_16 : decode cJ6_bitCount_0f7a4 16 = .ok (.iconst 2, 1) := by decide +kernel
theorem dJ6_bitCount_0f7a4_17 : decode cJ6_bitCount_0f7a4 17 = .ok (.iushr, 1) := by decide +kernel
theorem dJ6_bitCount_0f7a4_18 : decode cJ6_bitCount_0f7a4 18 = .ok (.ldc_w 266, 3) := by decide +kernel
theorem dJ6_bitCount_0f7a4_21 : decode cJ6_bitCount_0f7a4 21 = .ok (.iand, 1) := by decide +kernel
theorem dJ6_bitCount_0f7a4_22 : decode cJ6_bitCount_0f7a4 22 = .ok (.iadd, 1) := by decide +kernel
theorem dJ6_bitCount_0f7a4_23 : decode cJ6_bitCount_0f7a4 23 = .ok (.istore_n 0, 1) := by decide +kernel
theorem dJ6_bitCount_0f7a4_24 : decode cJ6_bitCount_0f7a4 24 = .ok (.iload_n 0, 1) := by decide +kernel
theorem dJ6_bitCount_0f7a4_25 : decode cJ6_bitCount_0f7a4 25 = .ok (.iload_n 0, 1) := by decide +kernel
theorem dJ6_bitCount_0f7a4_26 : decode cJ6_bitCount_0f7a4 26 = .ok (.iconst 4, 1) := by decide +kernel
theorem dJ6_bitCount_0f7a4_27 : decode cJ6_bitCount_0f7a4 27 = .ok (.iushr, 1) := by decide +kernel
theorem dJ6_bitCount_0f7a4_28 : decode cJ6_bitCount_0f7a4 28 = .ok (.iadd, 1) := by decide +kernel
theorem dJ6_bitCount_0f7a4_29 : decode cJ6_bitCount_0f7a4 29 = .ok (.ldc_w 267, 3) := by decide +kernel
theorem dJ6_bitCount_0f7a4_32 : decode cJ6_bitCount_0f7a4 32 = .ok (.iand, 1) := by decide +kernel
theorem dJ6_bitCount_0f7a4_33 : decode cJ6_bitCount_0f7a4 33 = .ok (.istore_n 0, 1) := by decide +kernel
theorem dJ6_bitCount_0f7a4_34 : decode cJ6_bitCount_0f7a4 34 = .ok (.iload_n 0, 1) := by decide +kernel
theorem dJ6_bitCount_0f7a4_35 : decode cJ6_bitCount_0f7a4 35 = .ok (.iload_n 0, 1) := by decide +kernel
theorem dJ6_bitCount_0f7a4_36 : decode cJ6_bitCount_0f7a4 36 = .ok (.bipush 8, 2) := by decide +kernel
theorem dJ6_bitCount_0f7a4_38 : decode cJ6_bitCount_0f7a4 38 = .ok (.iushr, 1) := by decide +kernel
theorem dJ6_bitCount_0f7a4_39 : decode cJ6_bitCount_0f7a4 39 = .ok (.iadd, 1) := by decide +kernel
theorem dJ6_bitCount_0f7a4_40 : decode cJ6_bitCount_0f7a4 40 = .ok (.istore_n 0, 1) := by decide +kernel
theorem dJ6_bitCount_0f7a4_41 : decode cJ6_bitCount_0f7a4 41 = .ok (.iload_n 0, 1) := by decide +kernel
theorem dJ6_bitCount_0f7a4_42 : decode cJ6_bitCount_0f7a4 42 = .ok (.iload_n 0, 1) := by decide +kernel
theorem dJ6_bitCount_0f7a4_43 : decode cJ6_bitCount_0f7a4 43 = .ok (.bipush 16, 2) := by decide +kernel
theorem dJ6_bitCount_0f7a4_45 : decode cJ6_bitCount_0f7a4 45 = .ok (.iushr, 1) := by decide +kernel
theorem dJ6_bitCount_0f7a4_46 : decode cJ6_bitCount_0f7a4 46 = .ok (.iadd, 1) := by decide +kernel
theorem dJ6_bitCount_0f7a4_47 : decode cJ6_bitCount_0f7a4 47 = .ok (.istore_n 0, 1) := by decide +kernel
theorem dJ6_bitCount_0f7a4_48 : decode cJ6_bitCount_0f7a4 48 = .ok (.iload_n 0, 1) := by decide +kernel
theorem dJ6_bitCount_0f7a4_49 : decode cJ6_bitCount_0f7a4 49 = .ok (.bipush 63, 2) := by decide +kernel
theorem dJ6_bitCount_0f7a4_51 : decode cJ6_bitCount_0f7a4 51 = .ok (.iand, 1) := by decide +kernel
theorem dJ6_bitCount_0f7a4_52 : decode cJ6_bitCount_0f7a4 52 = .ok (.ireturn, 1) := by decide +kernel
theorem dJ9_max_7cf53_0 : decode cJ9_max_7cf53 0 = .ok (.iload_n 0, 1) := by decide +kernel
theorem dJ9_max_7cf53_1 : decode cJ9_max_7cf53 1 = .ok (.iload_n 1, 1) := by decide +kernel
theorem dJ9_max_7cf53_2 : decode cJ9_max_7cf53 2 = .ok (.if_icmp .lt 7, 3) := by decide +kernel
theorem dJ9_max_7cf53_5 : decode cJ9_max_7cf53 5 = .ok (.iload_n 0, 1) := by decide +kernel
theorem dJ9_max_7cf53_6 : decode cJ9_max_7cf53 6 = .ok (.goto 4, 3) := by decide +kernel
theorem dJ9_max_7cf53_9 : decode cJ9_max_7cf53 9 = .ok (.iload_n 1, 1) := by decide +kernel
theorem dJ9_max_7cf53_10 : decode cJ9_max_7cf53 10 = .ok (.ireturn, 1) := by decide +kernel
theorem dJ9_min_7cf53_0 : decode cJ9_min_7cf53 0 = .ok (.iload_n 0, 1) := by decide +kernel
theorem dJ9_min_7cf53_1 : decode cJ9_min_7cf53 1 = .ok (.iload_n 1, 1) := by decide +kernel
theorem dJ9_min_7cf53_2 : decode cJ9_min_7cf53 2 = .ok (.if_icmp .gt 7, 3) := by decide +kernel
theorem dJ9_min_7cf53_5 : decode cJ9_min_7cf53 5 = .ok (.iload_n 0, 1) := by decide +kernel
theorem dJ9_min_7cf53_6 : decode cJ9_min_7cf53 6 = .ok (.goto 4, 3) := by decide +kernel
theorem dJ9_min_7cf53_9 : decode cJ9_min_7cf53 9 = .ok (.iload_n 1, 1) := by decide +kernel
theorem dJ9_min_7cf53_10 : decode cJ9_min_7cf53 10 = .ok (.ireturn, 1) := by decide +kernel
theorem dJ7_fill_d0a16_0 : decode cJ7_fill_d0a16 0 = .ok (.iconst 0, 1) := by decide +kernel
theorem dJ7_fill_d0a16_1 : decode cJ7_fill_d0a16 1 = .ok (.istore_n 3, 1) := by decide +kernel
theorem dJ7_fill_d0a16_2 : decode cJ7_fill_d0a16 2 = .ok (.aload_n 0, 1) := by decide +kernel
theorem dJ7_fill_d0a16_3 : decode cJ7_fill_d0a16 3 = .ok (.arraylength, 1) := by decide +kernel
theorem dJ7_fill_d0a16_4 : decode cJ7_fill_d0a16 4 = .ok (.istore 4, 2) := by decide +kernel
theorem dJ7_fill_d0a16_6 : decode cJ7_fill_d0a16 6 = .ok (.iload_n 3, 1) := by decide +kernel
theorem dJ7_fill_d0a16_7 : decode cJ7_fill_d0a16 7 = .ok (.iload 4, 2) := by decide +kernel
theorem dJ7_fill_d0a16_9 : decode cJ7_fill_d0a16 9 = .ok (.if_icmp .ge 13, 3) := by decide +kernel
theorem dJ7_fill_d0a16_12 : decode cJ7_fill_d0a16 12 = .ok (.aload_n 0, 1) := by decide +kernel
theorem dJ7_fill_d0a16_13 : decode cJ7_fill_d0a16 13 = .ok (.iload_n 3, 1) := by decide +kernel
theorem dJ7_fill_d0a16_14 : decode cJ7_fill_d0a16 14 = .ok (.lload_n 1, 1) := by decide +kernel
theorem dJ7_fill_d0a16_15 : decode cJ7_fill_d0a16 15 = .ok (.lastore, 1) := by decide +kernel
theorem dJ7_fill_d0a16_16 : decode cJ7_fill_d0a16 16 = .ok (.iinc 3 1, 3) := by decide +kernel
theorem dJ7_fill_d0a16_19 : decode cJ7_fill_d0a16 19 = .ok (.goto (-13), 3) := by decide +kernel
theorem dJ7_fill_d0a16_22 : decode cJ7_fill_d0a16 22 = .ok (.return_, 1) := by decide +kernel
theorem dJ7_fill_53178_0 : decode cJ7_fill_53178 0 = .ok (.iconst 0, 1) := by decide +kernel
theorem dJ7_fill_53178_1 : decode cJ7_fill_53178 1 = .ok (.istore_n 2, 1) := by decide +kernel
theorem dJ7_fill_53178_2 : decode cJ7_fill_53178 2 = .ok (.aload_n 0, 1) := by decide +kernel
theorem dJ7_fill_53178_3 : decode cJ7_fill_53178 3 = .ok (.arraylength, 1) := by decide +kernel
theorem dJ7_fill_53178_4 : decode cJ7_fill_53178 4 = .ok (.istore_n 3, 1) := by decide +kernel
theorem dJ7_fill_53178_5 : decode cJ7_fill_53178 5 = .ok (.iload_n 2, 1) := by decide +kernel
theorem dJ7_fill_53178_6 : decode cJ7_fill_53178 6 = .ok (.iload_n 3, 1) := by decide +kernel
theorem dJ7_fill_53178_7 : decode cJ7_fill_53178 7 = .ok (.if_icmp .ge 13, 3) := by decide +kernel
theorem dJ7_fill_53178_10 : decode cJ7_fill_53178 10 = .ok (.aload_n 0, 1) := by decide +kernel
theorem dJ7_fill_53178_11 : decode cJ7_fill_53178 11 = .ok (.iload_n 2, 1) := by decide +kernel
theorem dJ7_fill_53178_12 : decode cJ7_fill_53178 12 = .ok (.iload_n 1, 1) := by decide +kernel
theorem dJ7_fill_53178_13 : decode cJ7_fill_53178 13 = .ok (.iastore, 1) := by decide +kernel
theorem dJ7_fill_53178_14 : decode cJ7_fill_53178 14 = .ok (.iinc 2 1, 3) := by decide +kernel
theorem dJ7_fill_53178_17 : decode cJ7_fill_53178 17 = .ok (.goto (-12), 3) := by decide +kernel
theorem dJ7_fill_53178_20 : decode cJ7_fill_53178 20 = .ok (.return_, 1) := by decide +kernel
theorem dL_law_0 : decode cL_law 0 = .ok (.new 7, 3) := by decide +kernel
theorem dL_law_3 : decode cL_law 3 = .ok (.dup, 1) := by decide +kernel
theorem dL_law_4 : decode cL_law 4 = .ok (.invokespecial 9, 3) := by decide +kernel
theorem dL_law_7 : decode cL_law 7 = .ok (.astore_n 1, 1) := by decide +kernel
theorem dL_law_8 : decode cL_law 8 = .ok (.new 10, 3) := by decide +kernel
theorem dL_law_11 : decode cL_law 11 = .ok (.dup, 1) := by decide +kernel
theorem dL_law_12 : decode cL_law 12 = .ok (.invokespecial 12, 3) := by decide +kernel
theorem dL_law_15 : decode cL_law 15 = .ok (.astore_n 2, 1) := by decide +kernel
theorem dL_law_16 : decode cL_law 16 = .ok (.iconst 0, 1) := by decide +kernel
theorem dL_law_17 : decode cL_law 17 = .ok (.istore_n 3, 1) := by decide +kernel
theorem dL_law_18 : decode cL_law 18 = .ok (.iload_n 3, 1) := by decide +kernel
theorem dL_law_19 : decode cL_law 19 = .ok (.aload_n 0, 1) := by decide +kernel
theorem dL_law_20 : decode cL_law 20 = .ok (.arraylength, 1) := by decide +kernel
theorem dL_law_21 : decode cL_law 21 = .ok (.iconst 4, 1) := by decide +kernel
theorem dL_law_22 : decode cL_law 22 = .ok (.isub, 1) := by decide +kernel
theorem dL_law_23 : decode cL_law 23 = .ok (.if_icmp .gt 1125, 3) := by decide +kernel
theorem dL_law_26 : decode cL_law 26 = .ok (.aload_n 0, 1) := by decide +kernel
theorem dL_law_27 : decode cL_law 27 = .ok (.iload_n 3, 1) := by decide +kernel
theorem dL_law_28 : decode cL_law 28 = .ok (.iaload, 1) := by decide +kernel
theorem dL_law_29 : decode cL_law 29 = .ok (.bipush 63, 2) := by decide +kernel
theorem dL_law_31 : decode cL_law 31 = .ok (.iand, 1) := by decide +kernel
theorem dL_law_32 : decode cL_law 32 = .ok (.tableswitch 1110 0 33 #[152, 175, 218, 261, 294, 307, 370, 383, 432, 465, 488, 511, 544, 577, 610, 633, 666, 699, 732, 755, 788, 831, 854, 867, 900, 913, 946, 979, 1002, 1015, 1038, 1061, 1074, 1087], 152) := by decide +kernel
theorem dL_law_184 : decode cL_law 184 = .ok (.aload_n 1, 1) := by decide +kernel
theorem dL_law_185 : decode cL_law 185 = .ok (.aload_n 0, 1) := by decide +kernel
theorem dL_law_186 : decode cL_law 186 = .ok (.iload_n 3, 1) := by decide +kernel
theorem dL_law_187 : decode cL_law 187 = .ok (.iconst 1, 1) := by decide +kernel
theorem dL_law_188 : decode cL_law 188 = .ok (.iadd, 1) := by decide +kernel
theorem dL_law_189 : decode cL_law 189 = .ok (.iaload, 1) := by decide +kernel
theorem dL_law_190 : decode cL_law 190 = .ok (.invokevirtual 13, 3) := by decide +kernel
theorem dL_law_193 : decode cL_law 193 = .ok (.aload_n 2, 1) := by decide +kernel
theorem dL_law_194 : decode cL_law 194 = .ok (.aload_n 0, 1) := by decide +kernel
theorem dL_law_195 : decode cL_law 195 = .ok (.iload_n 3, 1) := by decide +kernel
theorem dL_law_196 : decode cL_law 196 = .ok (.iconst 1, 1) := by decide +kernel
theorem dL_law_197 : decode cL_law 197 = .ok (.iadd, 1) := by decide +kernel
theorem dL_law_198 : decode cL_law 198 = .ok (.iaload, 1) := by decide +kernel
theorem dL_law_199 : decode cL_law 199 = .ok (.invokevirtual 17, 3) := by decide +kernel
theorem dL_law_202 : decode cL_law 202 = .ok (.if_icmp .eq 940, 3) := by decide +kernel
theorem dL_law_205 : decode cL_law 205 = .ok (.iconst 0, 1) := by decide +kernel
theorem dL_law_206 : decode cL_law 206 = .ok (.ireturn, 1) := by decide +kernel
theorem dL_law_207 : decode cL_law 207 = .ok (.aload_n 1, 1) := by decide +kernel
theorem dL_law_208 : decode cL_law 208 = .ok (.aload_n 0, 1) := by decide +kernel
theorem dL_law_209 : decode cL_law 209 = .ok (.iload_n 3, 1) := by decide +kernel
theorem dL_law_210 : decode cL_law 210 = .ok (.iconst 1, 1) := by decide +kernel
theorem dL_law_211 : decode cL_law 211 = .ok (.iadd, 1) := by decide +kernel
theorem dL_law_212 : decode cL_law 212 = .ok (.iaload, 1) := by decide +kernel
theorem dL_law_213 : decode cL_law 213 = .ok (.aload_n 0, 1) := by decide +kernel
theorem dL_law_214 : decode cL_law 214 = .ok (.iload_n 3, 1) := by decide +kernel
theorem dL_law_215 : decode cL_law 215 = .ok (.iconst 2, 1) := by decide +kernel
theorem dL_law_216 : decode cL_law 216 = .ok (.iadd, 1) := by decide +kernel
theorem dL_law_217 : decode cL_law 217 = .ok (.iaload, 1) := by decide +kernel
theorem dL_law_218 : decode cL_law 218 = .ok (.aload_n 0, 1) := by decide +kernel
theorem dL_law_219 : decode cL_law 219 = .ok (.iload_n 3, 1) := by decide +kernel
theorem dL_law_220 : decode cL_law 220 = .ok (.iconst 3, 1) := by decide +kernel
theorem dL_law_221 : decode cL_law 221 = .ok (.iadd, 1) := by decide +kernel
theorem dL_law_222 : decode cL_law 222 = .ok (.iaload, 1) := by decide +kernel
theorem dL_law_223 : decode cL_law 223 = .ok (.invokevirtual 18, 3) := by decide +kernel
theorem dL_law_226 : decode cL_law 226 = .ok (.aload_n 2, 1) := by decide +kernel
theorem dL_law_227 : decode cL_law 227 = .ok (.aload_n 0, 1) := by decide +kernel
theorem dL_law_228 : decode cL_law 228 = .ok (.iload_n 3, 1) := by decide +kernel
theorem dL_law_229 : decode cL_law 229 = .ok (.iconst 1, 1) := by decide +kernel
theorem dL_law_230 : decode cL_law 230 = .ok (.iadd, 1) := by decide +kernel
theorem dL_law_231 : decode cL_law 231 = .ok (.iaload, 1) := by decide +kernel
theorem dL_law_232 : decode cL_law 232 = .ok (.aload_n 0, 1) := by decide +kernel
theorem dL_law_233 : decode cL_law 233 = .ok (.iload_n 3, 1) := by decide +kernel
theorem dL_law_234 : decode cL_law 234 = .ok (.iconst 2, 1) := by decide +kernel
theorem dL_law_235 : decode cL_law 235 = .ok (.iadd, 1) := by decide +kernel
theorem dL_law_236 : decode cL_law 236 = .ok (.iaload, 1) := by decide +kernel
theorem dL_law_237 : decode cL_law 237 = .ok (.aload_n 0, 1) := by decide +kernel
theorem dL_law_238 : decode cL_law 238 = .ok (.iload_n 3, 1) := by decide +kernel
theorem dL_law_239 : decode cL_law 239 = .ok (.iconst 3, 1) := by decide +kernel
theorem dL_law_240 : decode cL_law 240 = .ok (.iadd, 1) := by decide +kernel
theorem dL_law_241 : decode cL_law 241 = .ok (.iaload, 1) := by decide +kernel
theorem dL_law_242 : decode cL_law 242 = .ok (.invokevirtual 22, 3) := by decide +kernel
theorem dL_law_245 : decode cL_law 245 = .ok (.if_icmp .eq 897, 3) := by decide +kernel
theorem dL_law_248 : decode cL_law 248 = .ok (.iconst 0, 1) := by decide +kernel
theorem dL_law_249 : decode cL_law 249 = .ok (.ireturn, 1) := by decide +kernel
theorem dL_law_250 : decode cL_law 250 = .ok (.aload_n 1, 1) := by decide +kernel
theorem dL_law_251 : decode cL_law 251 = .ok (.aload_n 0, 1) := by decide +kernel
theorem dL_law_252 : decode cL_law 252 = .ok (.iload_n 3, 1) := by decide +kernel
theorem dL_law_253 : decode cL_law 253 = .ok (.iconst 1, 1) := by decide +kernel
theorem dL_law_254 : decode cL_law 254 = .ok (.iadd, 1) := by decide +kernel
theorem dL_law_255 : decode cL_law 255 = .ok (.iaload, 1) := by decide +kernel
theorem dL_law_256 : decode cL_law 256 = .ok (.aload_n 0, 1) := by decide +kernel
theorem dL_law_257 : decode cL_law 257 = .ok (.iload_n 3, 1) := by decide +kernel
theorem dL_law_258 : decode cL_law 258 = .ok (.iconst 2, 1) := by decide +kernel
theorem dL_law_259 : decode cL_law 259 = .ok (.iadd, 1) := by decide +kernel
theorem dL_law_260 : decode cL_law 260 = .ok (.iaload, 1) := by decide +kernel
theorem dL_law_261 : decode cL_law 261 = .ok (.aload_n 0, 1) := by decide +kernel
theorem dL_law_262 : decode cL_law 262 = .ok (.iload_n 3, 1) := by decide +kernel
theorem dL_law_263 : decode cL_law 263 = .ok (.iconst 3, 1) := by decide +kernel
theorem dL_law_264 : decode cL_law 264 = .ok (.iadd, 1) := by decide +kernel
theorem dL_law_265 : decode cL_law 265 = .ok (.iaload, 1) := by decide +kernel
theorem dL_law_266 : decode cL_law 266 = .ok (.invokevirtual 23, 3) := by decide +kernel
theorem dL_law_269 : decode cL_law 269 = .ok (.aload_n 2, 1) := by decide +kernel
theorem dL_law_270 : decode cL_law 270 = .ok (.aload_n 0, 1) := by decide +kernel
theorem dL_law_271 : decode cL_law 271 = .ok (.iload_n 3, 1) := by decide +kernel
theorem dL_law_272 : decode cL_law 272 = .ok (.iconst 1, 1) := by decide +kernel
theorem dL_law_273 : decode cL_law 273 = .ok (.iadd, 1) := by decide +kernel
theorem dL_law_274 : decode cL_law 274 = .ok (.iaload, 1) := by decide +kernel
theorem dL_law_275 : decode cL_law 275 = .ok (.aload_n 0, 1) := by decide +kernel
theorem dL_law_276 : decode cL_law 276 = .ok (.iload_n 3, 1) := by decide +kernel
theorem dL_law_277 : decode cL_law 277 = .ok (.iconst 2, 1) := by decide +kernel
theorem dL_law_278 : decode cL_law 278 = .ok (.iadd, 1) := by decide +kernel
theorem dL_law_279 : decode cL_law 279 = .ok (.iaload, 1) := by decide +kernel
theorem dL_law_280 : decode cL_law 280 = .ok (.aload_n 0, 1) := by decide +kernel
theorem dL_law_281 : decode cL_law 281 = .ok (.iload_n 3, 1) := by decide +kernel
theorem dL_law_282 : decode cL_law 282 = .ok (.iconst 3, 1) := by decide +kernel
theorem dL_law_283 : decode cL_law 283 = .ok (.iadd, 1) := by decide +kernel
theorem dL_law_284 : decode cL_law 284 = .ok (.iaload, 1) := by decide +kernel
theorem dL_law_285 : decode cL_law 285 = .ok (.invokevirtual 26, 3) := by decide +kernel
theorem dL_law_288 : decode cL_law 288 = .ok (.if_icmp .eq 854, 3) := by decide +kernel
theorem dL_law_291 : decode cL_law 291 = .ok (.iconst 0, 1) := by decide +kernel
theorem dL_law_292 : decode cL_law 292 = .ok (.ireturn, 1) := by decide +kernel
theorem dL_law_293 : decode cL_law 293 = .ok (.aload_n 1, 1) := by decide +kernel
theorem dL_law_294 : decode cL_law 294 = .ok (.aload_n 0, 1) := by decide +kernel
theorem dL_law_295 : decode cL_law 295 = .ok (.iload_n 3, 1) := by decide +kernel
theorem dL_law_296 : decode cL_law 296 = .ok (.iconst 1, 1) := by decide +kernel
theorem dL_law_297 : decode cL_law 297 = .ok (.iadd, 1) := by decide +kernel
theorem dL_law_298 : decode cL_law 298 = .ok (.iaload, 1) := by decide +kernel
theorem dL_law_299 : decode cL_law 299 = .ok (.aload_n 0, 1) := by decide +kernel
theorem dL_law_300 : decode cL_law 300 = .ok (.iload_n 3, 1) := by decide +kernel
theorem dL_law_301 : decode cL_law 301 = .ok (.iconst 2, 1) := by decide +kernel
theorem dL_law_302 : decode cL_law 302 = .ok (.iadd, 1) := by decide +kernel
theorem dL_law_303 : decode cL_law 303 = .ok (.iaload, 1) := by decide +kernel
theorem dL_law_304 : decode cL_law 304 = .ok (.invokevirtual 27, 3) := by decide +kernel
theorem dL_law_307 : decode cL_law 307 = .ok (.aload_n 2, 1) := by decide +kernel
theorem dL_law_308 : decode cL_law 308 = .ok (.aload_n 0, 1) := by decide +kernel
theorem dL_law_309 : decode cL_law 309 = .ok (.iload_n 3, 1) := by decide +kernel
theorem dL_law_310 : decode cL_law 310 = .ok (.iconst 1, 1) := by decide +kernel
theorem dL_law_311 : decode cL_law 311 = .ok (.iadd, 1) := by decide +kernel
theorem dL_law_312 : decode cL_law 312 = .ok (.iaload, 1) := by decide +kernel
theorem dL_law_313 : decode cL_law 313 = .ok (.aload_n 0, 1) := by decide +kernel
theorem dL_law_314 : decode cL_law 314 = .ok (.iload_n 3, 1) := by decide +kernel
theorem dL_law_315 : decode cL_law 315 = .ok (.iconst 2, 1) := by decide +kernel
theorem dL_law_316 : decode cL_law 316 = .ok (.iadd, 1) := by decide +kernel
theorem dL_law_317 : decode cL_law 317 = .ok (.iaload, 1) := by decide +kernel
theorem dL_law_318 : decode cL_law 318 = .ok (.invokevirtual 31, 3) := by decide +kernel
theorem dL_law_321 : decode cL_law 321 = .ok (.if_icmp .eq 821, 3) := by decide +kernel
theorem dL_law_324 : decode cL_law 324 = .ok (.iconst 0, 1) := by decide +kernel
theorem dL_law_325 : decode cL_law 325 = .ok (.ireturn, 1) := by decide +kernel
theorem dL_law_326 : decode cL_law 326 = .ok (.aload_n 1, 1) := by decide +kernel
theorem dL_law_327 : decode cL_law 327 = .ok (.invokevirtual 32, 3) := by decide +kernel
theorem dL_law_330 : decode cL_law 330 = .ok (.aload_n 2, 1) := by decide +kernel
theorem dL_law_331 : decode cL_law 331 = .ok (.invokevirtual 36, 3) := by decide +kernel
theorem dL_law_334 : decode cL_law 334 = .ok (.if_icmp .eq 808, 3) := by decide +kernel
theorem dL_law_337 : decode cL_law 337 = .ok (.iconst 0, 1) := by decide +kernel
theorem dL_law_338 : decode cL_law 338 = .ok (.ireturn, 1) := by decide +kernel
theorem dL_law_339 : decode cL_law 339 = .ok (.aload_n 1, 1) := by decide +kernel
theorem dL_law_340 : decode cL_law 340 = .ok (.aload_n 0, 1) := by decide +kernel
theorem dL_law_341 : decode cL_law 341 = .ok (.iload_n 3, 1) := by decide +kernel
theorem dL_law_342 : decode cL_law 342 = .ok (.iconst 1, 1) := by decide +kernel
theorem dL_law_343 : decode cL_law 343 = .ok (.iadd, 1) := by decide +kernel
theorem dL_law_344 : decode cL_law 344 = .ok (.iaload, 1) := by decide +kernel
theorem dL_law_345 : decode cL_law 345 = .ok (.aload_n 0, 1) := by decide +kernel
theorem dL_law_346 : decode cL_law 346 = .ok (.iload_n 3, 1) := by decide +kernel
theorem dL_law_347 : decode cL_law 347 = .ok (.iconst 2, 1) := by decide +kernel
theorem dL_law_348 : decode cL_law 348 = .ok (.iadd, 1) := by decide +kernel
theorem dL_law_349 : decode cL_law 349 = .ok (.iaload, 1) := by decide +kernel
theorem dL_law_350 : decode cL_law 350 = .ok (.i2l, 1) := by decide +kernel
theorem dL_law_351 : decode cL_law 351 = .ok (.bipush 32, 2) := by decide +kernel
theorem dL_law_353 : decode cL_law 353 = .ok (.lshl, 1) := by decide +kernel
theorem dL_law_354 : decode cL_law 354 = .ok (.aload_n 0, 1) := by decide +kernel
theorem dL_law_355 : decode cL_law 355 = .ok (.iload_n 3, 1) := by decide +kernel
theorem dL_law_356 : decode cL_law 356 = .ok (.iconst 3, 1) := by decide +kernel
theorem dL_law_357 : decode cL_law 357 = .ok (.iadd, 1) := by decide +kernel
theorem dL_law_358 : decode cL_law 358 = .ok (.iaload, 1) := by decide +kernel
theorem dL_law_359 : decode cL_law 359 = .ok (.i2l, 1) := by decide +kernel
theorem dL_law_360 : decode cL_law 360 = .ok (.ldc2_w 37, 3) := by decide +kernel
theorem dL_law_363 : decode cL_law 363 = .ok (.land, 1) := by decide +kernel
theorem dL_law_364 : decode cL_law 364 = .ok (.lor, 1) := by decide +kernel
theorem dL_law_365 : decode cL_law 365 = .ok (.invokevirtual 39, 3) := by decide +kernel
theorem dL_law_368 : decode cL_law 368 = .ok (.aload_n 2, 1) := by decide +kernel
theorem dL_law_369 : decode cL_law 369 = .ok (.aload_n 0, 1) := by decide +kernel
theorem dL_law_370 : decode cL_law 370 = .ok (.iload_n 3, 1) := by decide +kernel
theorem dL_law_371 : decode cL_law 371 = .ok (.iconst 1, 1) := by decide +kernel
theorem dL_law_372 : decode cL_law 372 = .ok (.iadd, 1) := by decide +kernel
theorem dL_law_373 : decode cL_law 373 = .ok (.iaload, 1) := by decide +kernel
theorem dL_law_374 : decode cL_law 374 = .ok (.aload_n 0, 1) := by decide +kernel
theorem dL_law_375 : decode cL_law 375 = .ok (.iload_n 3, 1) := by decide +kernel
theorem dL_law_376 : decode cL_law 376 = .ok (.iconst 2, 1) := by decide +kernel
theorem dL_law_377 : decode cL_law 377 = .ok (.iadd, 1) := by decide +kernel
theorem dL_law_378 : decode cL_law 378 = .ok (.iaload, 1) := by decide +kernel
theorem dL_law_379 : decode cL_law 379 = .ok (.i2l, 1) := by decide +kernel
theorem dL_law_380 : decode cL_law 380 = .ok (.bipush 32, 2) := by decide +kernel
theorem dL_law_382 : decode cL_law 382 = .ok (.lshl, 1) := by decide +kernel
theorem dL_law_383 : decode cL_law 383 = .ok (.aload_n 0, 1) := by decide +kernel
theorem dL_law_384 : decode cL_law 384 = .ok (.iload_n 3, 1) := by decide +kernel
theorem dL_law_385 : decode cL_law 385 = .ok (.iconst 3, 1) := by decide +kernel
theorem dL_law_386 : decode cL_law 386 = .ok (.iadd, 1) := by decide +kernel
theorem dL_law_387 : decode cL_law 387 = .ok (.iaload, 1) := by decide +kernel
theorem dL_law_388 : decode cL_law 388 = .ok (.i2l, 1) := by decide +kernel
theorem dL_law_389 : decode cL_law 389 = .ok (.ldc2_w 37, 3) := by decide +kernel
theorem dL_law_392 : decode cL_law 392 = .ok (.land, 1) := by decide +kernel
theorem dL_law_393 : decode cL_law 393 = .ok (.lor, 1) := by decide +kernel
theorem dL_law_394 : decode cL_law 394 = .ok (.invokevirtual 43, 3) := by decide +kernel
theorem dL_law_397 : decode cL_law 397 = .ok (.if_icmp .eq 745, 3) := by decide +kernel
theorem dL_law_400 : decode cL_law 400 = .ok (.iconst 0, 1) := by decide +kernel
theorem dL_law_401 : decode cL_law 401 = .ok (.ireturn, 1) := by decide +kernel
theorem dL_law_402 : decode cL_law 402 = .ok (.aload_n 1, 1) := by decide +kernel
theorem dL_law_403 : decode cL_law 403 = .ok (.invokevirtual 44, 3) := by decide +kernel
theorem dL_law_406 : decode cL_law 406 = .ok (.aload_n 2, 1) := by decide +kernel
theorem dL_law_407 : decode cL_law 407 = .ok (.invokevirtual 47, 3) := by decide +kernel
theorem dL_law_410 : decode cL_law 410 = .ok (.if_icmp .eq 732, 3) := by decide +kernel
theorem dL_law_413 : decode cL_law 413 = .ok (.iconst 0, 1) := by decide +kernel
theorem dL_law_414 : decode cL_law 414 = .ok (.ireturn, 1) := by decide +kernel
theorem dL_law_415 : decode cL_law 415 = .ok (.aload_n 1, 1) := by decide +kernel
theorem dL_law_416 : decode cL_law 416 = .ok (.aload_n 0, 1) := by decide +kernel
theorem dL_law_417 : decode cL_law 417 = .ok (.iload_n 3, 1) := by decide +kernel
theorem dL_law_418 : decode cL_law 418 = .ok (.iconst 1, 1) := by decide +kernel
theorem dL_law_419 : decode cL_law 419 = .ok (.iadd, 1) := by decide +kernel
theorem dL_law_420 : decode cL_law 420 = .ok (.iaload, 1) := by decide +kernel
theorem dL_law_421 : decode cL_law 421 = .ok (.aload_n 0, 1) := by decide +kernel
theorem dL_law_422 : decode cL_law 422 = .ok (.iload_n 3, 1) := by decide +kernel
theorem dL_law_423 : decode cL_law 423 = .ok (.iconst 2, 1) := by decide +kernel
theorem dL_law_424 : decode cL_law 424 = .ok (.iadd, 1) := by decide +kernel
theorem dL_law_425 : decode cL_law 425 = .ok (.iaload, 1) := by decide +kernel
theorem dL_law_426 : decode cL_law 426 = .ok (.ifCond .eq 7, 3) := by decide +kernel
theorem dL_law_429 : decode cL_law 429 = .ok (.iconst 1, 1) := by decide +kernel
theorem dL_law_430 : decode cL_law 430 = .ok (.goto 4, 3) := by decide +kernel
theorem dL_law_433 : decode cL_law 433 = .ok (.iconst 0, 1) := by decide +kernel
theorem dL_law_434 : decode cL_law 434 = .ok (.invokevirtual 48, 3) := by decide +kernel
theorem dL_law_437 : decode cL_law 437 = .ok (.aload_n 2, 1) := by decide +kernel
theorem dL_law_438 : decode cL_law 438 = .ok (.aload_n 0, 1) := by decide +kernel
theorem dL_law_439 : decode cL_law 439 = .ok (.iload_n 3, 1) := by decide +kernel
theorem dL_law_440 : decode cL_law 440 = .ok (.iconst 1, 1) := by decide +kernel
theorem dL_law_441 : decode cL_law 441 = .ok (.iadd, 1) := by decide +kernel
theorem dL_law_442 : decode cL_law 442 = .ok (.iaload, 1) := by decide +kernel
theorem dL_law_443 : decode cL_law 443 = .ok (.aload_n 0, 1) := by decide +kernel
theorem dL_law_444 : decode cL_law 444 = .ok (.iload_n 3, 1) := by decide +kernel
theorem dL_law_445 : decode cL_law 445 = .ok (.iconst 2, 1) := by decide +kernel
theorem dL_law_446 : decode cL_law 446 = .ok (.iadd, 1) := by decide +kernel
theorem dL_law_447 : decode cL_law 447 = .ok (.iaload, 1) := by decide +kernel
theorem dL_law_448 : decode cL_law 448 = .ok (.ifCond .eq 7, 3) := by decide +kernel
theorem dL_law_451 : decode cL_law 451 = .ok (.iconst 1, 1) := by decide +kernel
theorem dL_law_452 : decode cL_law 452 = .ok (.goto 4, 3) := by decide +kernel
theorem dL_law_455 : decode cL_law 455 = .ok (.iconst 0, 1) := by decide +kernel
theorem dL_law_456 : decode cL_law 456 = .ok (.invokevirtual 52, 3) := by decide +kernel
theorem dL_law_459 : decode cL_law 459 = .ok (.if_icmp .eq 683, 3) := by decide +kernel
theorem dL_law_462 : decode cL_law 462 = .ok (.iconst 0, 1) := by decide +kernel
theorem dL_law_463 : decode cL_law 463 = .ok (.ireturn, 1) := by decide +kernel
theorem dL_law_464 : decode cL_law 464 = .ok (.aload_n 1, 1) := by decide +kernel
theorem dL_law_465 : decode cL_law 465 = .ok (.aload_n 0, 1) := by decide +kernel
theorem dL_law_466 : decode cL_law 466 = .ok (.iload_n 3, 1) := by decide +kernel
theorem dL_law_467 : decode cL_law 467 = .ok (.iconst 1, 1) := by decide +kernel
theorem dL_law_468 : decode cL_law 468 = .ok (.iadd, 1) := by decide +kernel
theorem dL_law_469 : decode cL_law 469 = .ok (.iaload, 1) := by decide +kernel
theorem dL_law_470 : decode cL_law 470 = .ok (.aload_n 0, 1) := by decide +kernel
theorem dL_law_471 : decode cL_law 471 = .ok (.iload_n 3, 1) := by decide +kernel
theorem dL_law_472 : decode cL_law 472 = .ok (.iconst 2, 1) := by decide +kernel
theorem dL_law_473 : decode cL_law 473 = .ok (.iadd, 1) := by decide +kernel
theorem dL_law_474 : decode cL_law 474 = .ok (.iaload, 1) := by decide +kernel
theorem dL_law_475 : decode cL_law 475 = .ok (.invokevirtual 53, 3) := by decide +kernel
theorem dL_law_478 : decode cL_law 478 = .ok (.aload_n 2, 1) := by decide +kernel
theorem dL_law_479 : decode cL_law 479 = .ok (.aload_n 0, 1) := by decide +kernel
theorem dL_law_480 : decode cL_law 480 = .ok (.iload_n 3, 1) := by decide +kernel
theorem dL_law_481 : decode cL_law 481 = .ok (.iconst 1, 1) := by decide +kernel
theorem dL_law_482 : decode cL_law 482 = .ok (.iadd, 1) := by decide +kernel
theorem dL_law_483 : decode cL_law 483 = .ok (.iaload, 1) := by decide +kernel
theorem dL_law_484 : decode cL_law 484 = .ok (.aload_n 0, 1) := by decide +kernel
theorem dL_law_485 : decode cL_law 485 = .ok (.iload_n 3, 1) := by decide +kernel
theorem dL_law_486 : decode cL_law 486 = .ok (.iconst 2, 1) := by decide +kernel
theorem dL_law_487 : decode cL_law 487 = .ok (.iadd, 1) := by decide +kernel
theorem dL_law_488 : decode cL_law 488 = .ok (.iaload, 1) := by decide +kernel
theorem dL_law_489 : decode cL_law 489 = .ok (.invokevirtual 56, 3) := by decide +kernel
theorem dL_law_492 : decode cL_law 492 = .ok (.if_icmp .eq 650, 3) := by decide +kernel
theorem dL_law_495 : decode cL_law 495 = .ok (.iconst 0, 1) := by decide +kernel
theorem dL_law_496 : decode cL_law 496 = .ok (.ireturn, 1) := by decide +kernel
theorem dL_law_497 : decode cL_law 497 = .ok (.aload_n 1, 1) := by decide +kernel
theorem dL_law_498 : decode cL_law 498 = .ok (.aload_n 0, 1) := by decide +kernel
theorem dL_law_499 : decode cL_law 499 = .ok (.iload_n 3, 1) := by decide +kernel
theorem dL_law_500 : decode cL_law 500 = .ok (.iconst 1, 1) := by decide +kernel
theorem dL_law_501 : decode cL_law 501 = .ok (.iadd, 1) := by decide +kernel
theorem dL_law_502 : decode cL_law 502 = .ok (.iaload, 1) := by decide +kernel
theorem dL_law_503 : decode cL_law 503 = .ok (.invokevirtual 57, 3) := by decide +kernel
theorem dL_law_506 : decode cL_law 506 = .ok (.aload_n 2, 1) := by decide +kernel
theorem dL_law_507 : decode cL_law 507 = .ok (.aload_n 0, 1) := by decide +kernel
theorem dL_law_508 : decode cL_law 508 = .ok (.iload_n 3, 1) := by decide +kernel
theorem dL_law_509 : decode cL_law 509 = .ok (.iconst 1, 1) := by decide +kernel
theorem dL_law_510 : decode cL_law 510 = .ok (.iadd, 1) := by decide +kernel
theorem dL_law_511 : decode cL_law 511 = .ok (.iaload, 1) := by decide +kernel
theorem dL_law_512 : decode cL_law 512 = .ok (.invokevirtual 60, 3) := by decide +kernel
theorem dL_law_515 : decode cL_law 515 = .ok (.if_icmp .eq 627, 3) := by decide +kernel
theorem dL_law_518 : decode cL_law 518 = .ok (.iconst 0, 1) := by decide +kernel
theorem dL_law_519 : decode cL_law 519 = .ok (.ireturn, 1) := by decide +kernel
theorem dL_law_520 : decode cL_law 520 = .ok (.aload_n 1, 1) := by decide +kernel
theorem dL_law_521 : decode cL_law 521 = .ok (.aload_n 0, 1) := by decide +kernel
theorem dL_law_522 : decode cL_law 522 = .ok (.iload_n 3, 1) := by decide +kernel
theorem dL_law_523 : decode cL_law 523 = .ok (.iconst 1, 1) := by decide +kernel
theorem dL_law_524 : decode cL_law 524 = .ok (.iadd, 1) := by decide +kernel
theorem dL_law_525 : decode cL_law 525 = .ok (.iaload, 1) := by decide +kernel
theorem dL_law_526 : decode cL_law 526 = .ok (.invokevirtual 61, 3) := by decide +kernel
theorem dL_law_529 : decode cL_law 529 = .ok (.aload_n 2, 1) := by decide +kernel
theorem dL_law_530 : decode cL_law 530 = .ok (.aload_n 0, 1) := by decide +kernel
theorem dL_law_531 : decode cL_law 531 = .ok (.iload_n 3, 1) := by decide +kernel
theorem dL_law_532 : decode cL_law 532 = .ok (.iconst 1, 1) := by decide +kernel
theorem dL_law_533 : decode cL_law 533 = .ok (.iadd, 1) := by decide +kernel
theorem dL_law_534 : decode cL_law 534 = .ok (.iaload, 1) := by decide +kernel
theorem dL_law_535 : decode cL_law 535 = .ok (.invokevirtual 64, 3) := by decide +kernel
theorem dL_law_538 : decode cL_law 538 = .ok (.if_icmp .eq 604, 3) := by decide +kernel
theorem dL_law_541 : decode cL_law 541 = .ok (.iconst 0, 1) := by decide +kernel
theorem dL_law_542 : decode cL_law 542 = .ok (.ireturn, 1) := by decide +kernel
theorem dL_law_543 : decode cL_law 543 = .ok (.aload_n 1, 1) := by decide +kernel
theorem dL_law_544 : decode cL_law 544 = .ok (.aload_n 0, 1) := by decide +kernel
theorem dL_law_545 : decode cL_law 545 = .ok (.iload_n 3, 1) := by decide +kernel
theorem dL_law_546 : decode cL_law 546 = .ok (.iconst 1, 1) := by decide +kernel
theorem dL_law_547 : decode cL_law 547 = .ok (.iadd, 1) := by decide +kernel
theorem dL_law_548 : decode cL_law 548 = .ok (.iaload, 1) := by decide +kernel
theorem dL_law_549 : decode cL_law 549 = .ok (.aload_n 0, 1) := by decide +kernel
theorem dL_law_550 : decode cL_law 550 = .ok (.iload_n 3, 1) := by decide +kernel
theorem dL_law_551 : decode cL_law 551 = .ok (.iconst 2, 1) := by decide +kernel
theorem dL_law_552 : decode cL_law 552 = .ok (.iadd, 1) := by decide +kernel
theorem dL_law_553 : decode cL_law 553 = .ok (.iaload, 1) := by decide +kernel
theorem dL_law_554 : decode cL_law 554 = .ok (.invokevirtual 65, 3) := by decide +kernel
theorem dL_law_557 : decode cL_law 557 = .ok (.aload_n 2, 1) := by decide +kernel
theorem dL_law_558 : decode cL_law 558 = .ok (.aload_n 0, 1) := by decide +kernel
theorem dL_law_559 : decode cL_law 559 = .ok (.iload_n 3, 1) := by decide +kernel
theorem dL_law_560 : decode cL_law 560 = .ok (.iconst 1, 1) := by decide +kernel
theorem dL_law_561 : decode cL_law 561 = .ok (.iadd, 1) := by decide +kernel
theorem dL_law_562 : decode cL_law 562 = .ok (.iaload, 1) := by decide +kernel
theorem dL_law_563 : decode cL_law 563 = .ok (.aload_n 0, 1) := by decide +kernel
theorem dL_law_564 : decode cL_law 564 = .ok (.iload_n 3, 1) := by decide +kernel
theorem dL_law_565 : decode cL_law 565 = .ok (.iconst 2, 1) := by decide +kernel
theorem dL_law_566 : decode cL_law 566 = .ok (.iadd, 1) := by decide +kernel
theorem dL_law_567 : decode cL_law 567 = .ok (.iaload, 1) := by decide +kernel
theorem dL_law_568 : decode cL_law 568 = .ok (.invokevirtual 68, 3) := by decide +kernel
theorem dL_law_571 : decode cL_law 571 = .ok (.if_icmp .eq 571, 3) := by decide +kernel
theorem dL_law_574 : decode cL_law 574 = .ok (.iconst 0, 1) := by decide +kernel
theorem dL_law_575 : decode cL_law 575 = .ok (.ireturn, 1) := by decide +kernel
theorem dL_law_576 : decode cL_law 576 = .ok (.aload_n 1, 1) := by decide +kernel
theorem dL_law_577 : decode cL_law 577 = .ok (.aload_n 0, 1) := by decide +kernel
theorem dL_law_578 : decode cL_law 578 = .ok (.iload_n 3, 1) := by decide +kernel
theorem dL_law_579 : decode cL_law 579 = .ok (.iconst 1, 1) := by decide +kernel
theorem dL_law_580 : decode cL_law 580 = .ok (.iadd, 1) := by decide +kernel
theorem dL_law_581 : decode cL_law 581 = .ok (.iaload, 1) := by decide +kernel
theorem dL_law_582 : decode cL_law 582 = .ok (.aload_n 0, 1) := by decide +kernel
theorem dL_law_583 : decode cL_law 583 = .ok (.iload_n 3, 1) := by decide +kernel
theorem dL_law_584 : decode cL_law 584 = .ok (.iconst 2, 1) := by decide +kernel
theorem dL_law_585 : decode cL_law 585 = .ok (.iadd, 1) := by decide +kernel
theorem dL_law_586 : decode cL_law 586 = .ok (.iaload, 1) := by decide +kernel
theorem dL_law_587 : decode cL_law 587 = .ok (.invokevirtual 69, 3) := by decide +kernel
theorem dL_law_590 : decode cL_law 590 = .ok (.aload_n 2, 1) := by decide +kernel
theorem dL_law_591 : decode cL_law 591 = .ok (.aload_n 0, 1) := by decide +kernel
theorem dL_law_592 : decode cL_law 592 = .ok (.iload_n 3, 1) := by decide +kernel
theorem dL_law_593 : decode cL_law 593 = .ok (.iconst 1, 1) := by decide +kernel
theorem dL_law_594 : decode cL_law 594 = .ok (.iadd, 1) := by decide +kernel
theorem dL_law_595 : decode cL_law 595 = .ok (.iaload, 1) := by decide +kernel
theorem dL_law_596 : decode cL_law 596 = .ok (.aload_n 0, 1) := by decide +kernel
theorem dL_law_597 : decode cL_law 597 = .ok (.iload_n 3, 1) := by decide +kernel
theorem dL_law_598 : decode cL_law 598 = .ok (.iconst 2, 1) := by decide +kernel
theorem dL_law_599 : decode cL_law 599 = .ok (.iadd, 1) := by decide +kernel
theorem dL_law_600 : decode cL_law 600 = .ok (.iaload, 1) := by decide +kernel
theorem dL_law_601 : decode cL_law 601 = .ok (.invokevirtual 72, 3) := by decide +kernel
theorem dL_law_604 : decode cL_law 604 = .ok (.if_icmp .eq 538, 3) := by decide +kernel
theorem dL_law_607 : decode cL_law 607 = .ok (.iconst 0, 1) := by decide +kernel
theorem dL_law_608 : decode cL_law 608 = .ok (.ireturn, 1) := by decide +kernel
theorem dL_law_609 : decode cL_law 609 = .ok (.aload_n 1, 1) := by decide +kernel
theorem dL_law_610 : decode cL_law 610 = .ok (.aload_n 0, 1) := by decide +kernel
theorem dL_law_611 : decode cL_law 611 = .ok (.iload_n 3, 1) := by decide +kernel
theorem dL_law_612 : decode cL_law 612 = .ok (.iconst 1, 1) := by decide +kernel
theorem dL_law_613 : decode cL_law 613 = .ok (.iadd, 1) := by decide +kernel
theorem dL_law_614 : decode cL_law 614 = .ok (.iaload, 1) := by decide +kernel
theorem dL_law_615 : decode cL_law 615 = .ok (.aload_n 0, 1) := by decide +kernel
theorem dL_law_616 : decode cL_law 616 = .ok (.iload_n 3, 1) := by decide +kernel
theorem dL_law_617 : decode cL_law 617 = .ok (.iconst 2, 1) := by decide +kernel
theorem dL_law_618 : decode cL_law 618 = .ok (.iadd, 1) := by decide +kernel
theorem dL_law_619 : decode cL_law 619 = .ok (.iaload, 1) := by decide +kernel
theorem dL_law_620 : decode cL_law 620 = .ok (.invokevirtual 73, 3) := by decide +kernel
theorem dL_law_623 : decode cL_law 623 = .ok (.aload_n 2, 1) := by decide +kernel
theorem dL_law_624 : decode cL_law 624 = .ok (.aload_n 0, 1) := by decide +kernel
theorem dL_law_625 : decode cL_law 625 = .ok (.iload_n 3, 1) := by decide +kernel
theorem dL_law_626 : decode cL_law 626 = .ok (.iconst 1, 1) := by decide +kernel
theorem dL_law_627 : decode cL_law 627 = .ok (.iadd, 1) := by decide +kernel
theorem dL_law_628 : decode cL_law 628 = .ok (.iaload, 1) := by decide +kernel
theorem dL_law_629 : decode cL_law 629 = .ok (.aload_n 0, 1) := by decide +kernel
theorem dL_law_630 : decode cL_law 630 = .ok (.iload_n 3, 1) := by decide +kernel
theorem dL_law_631 : decode cL_law 631 = .ok (.iconst 2, 1) := by decide +kernel
theorem dL_law_632 : decode cL_law 632 = .ok (.iadd, 1) := by decide +kernel
theorem dL_law_633 : decode cL_law 633 = .ok (.iaload, 1) := by decide +kernel
theorem dL_law_634 : decode cL_law 634 = .ok (.invokevirtual 76, 3) := by decide +kernel
theorem dL_law_637 : decode cL_law 637 = .ok (.if_icmp .eq 505, 3) := by decide +kernel
theorem dL_law_640 : decode cL_law 640 = .ok (.iconst 0, 1) := by decide +kernel
theorem dL_law_641 : decode cL_law 641 = .ok (.ireturn, 1) := by decide +kernel
theorem dL_law_642 : decode cL_law 642 = .ok (.aload_n 1, 1) := by decide +kernel
theorem dL_law_643 : decode cL_law 643 = .ok (.aload_n 0, 1) := by decide +kernel
theorem dL_law_644 : decode cL_law 644 = .ok (.iload_n 3, 1) := by decide +kernel
theorem dL_law_645 : decode cL_law 645 = .ok (.iconst 1, 1) := by decide +kernel
theorem dL_law_646 : decode cL_law 646 = .ok (.iadd, 1) := by decide +kernel
theorem dL_law_647 : decode cL_law 647 = .ok (.iaload, 1) := by decide +kernel
theorem dL_law_648 : decode cL_law 648 = .ok (.invokevirtual 77, 3) := by decide +kernel
theorem dL_law_651 : decode cL_law 651 = .ok (.aload_n 2, 1) := by decide +kernel
theorem dL_law_652 : decode cL_law 652 = .ok (.aload_n 0, 1) := by decide +kernel
theorem dL_law_653 : decode cL_law 653 = .ok (.iload_n 3, 1) := by decide +kernel
theorem dL_law_654 : decode cL_law 654 = .ok (.iconst 1, 1) := by decide +kernel
theorem dL_law_655 : decode cL_law 655 = .ok (.iadd, 1) := by decide +kernel
theorem dL_law_656 : decode cL_law 656 = .ok (.iaload, 1) := by decide +kernel
theorem dL_law_657 : decode cL_law 657 = .ok (.invokevirtual 80, 3) := by decide +kernel
theorem dL_law_660 : decode cL_law 660 = .ok (.if_icmp .eq 482, 3) := by decide +kernel
theorem dL_law_663 : decode cL_law 663 = .ok (.iconst 0, 1) := by decide +kernel
theorem dL_law_664 : decode cL_law 664 = .ok (.ireturn, 1) := by decide +kernel
theorem dL_law_665 : decode cL_law 665 = .ok (.aload_n 1, 1) := by decide +kernel
theorem dL_law_666 : decode cL_law 666 = .ok (.aload_n 0, 1) := by decide +kernel
theorem dL_law_667 : decode cL_law 667 = .ok (.iload_n 3, 1) := by decide +kernel
theorem dL_law_668 : decode cL_law 668 = .ok (.iconst 1, 1) := by decide +kernel
theorem dL_law_669 : decode cL_law 669 = .ok (.iadd, 1) := by decide +kernel
theorem dL_law_670 : decode cL_law 670 = .ok (.iaload, 1) := by decide +kernel
theorem dL_law_671 : decode cL_law 671 = .ok (.aload_n 0, 1) := by decide +kernel
theorem dL_law_672 : decode cL_law 672 = .ok (.iload_n 3, 1) := by decide +kernel
theorem dL_law_673 : decode cL_law 673 = .ok (.iconst 2, 1) := by decide +kernel
theorem dL_law_674 : decode cL_law 674 = .ok (.iadd, 1) := by decide +kernel
theorem dL_law_675 : decode cL_law 675 = .ok (.iaload, 1) := by decide +kernel
theorem dL_law_676 : decode cL_law 676 = .ok (.invokevirtual 81, 3) := by decide +kernel
theorem dL_law_679 : decode cL_law 679 = .ok (.aload_n 2, 1) := by decide +kernel
theorem dL_law_680 : decode cL_law 680 = .ok (.aload_n 0, 1) := by decide +kernel
theorem dL_law_681 : decode cL_law 681 = .ok (.iload_n 3, 1) := by decide +kernel
theorem dL_law_682 : decode cL_law 682 = .ok (.iconst 1, 1) := by decide +kernel
theorem dL_law_683 : decode cL_law 683 = .ok (.iadd, 1) := by decide +kernel
theorem dL_law_684 : decode cL_law 684 = .ok (.iaload, 1) := by decide +kernel
theorem dL_law_685 : decode cL_law 685 = .ok (.aload_n 0, 1) := by decide +kernel
theorem dL_law_686 : decode cL_law 686 = .ok (.iload_n 3, 1) := by decide +kernel
theorem dL_law_687 : decode cL_law 687 = .ok (.iconst 2, 1) := by decide +kernel
theorem dL_law_688 : decode cL_law 688 = .ok (.iadd, 1) := by decide +kernel
theorem dL_law_689 : decode cL_law 689 = .ok (.iaload, 1) := by decide +kernel
theorem dL_law_690 : decode cL_law 690 = .ok (.invokevirtual 84, 3) := by decide +kernel
theorem dL_law_693 : decode cL_law 693 = .ok (.if_icmp .eq 449, 3) := by decide +kernel
theorem dL_law_696 : decode cL_law 696 = .ok (.iconst 0, 1) := by decide +kernel
theorem dL_law_697 : decode cL_law 697 = .ok (.ireturn, 1) := by decide +kernel
theorem dL_law_698 : decode cL_law 698 = .ok (.aload_n 1, 1) := by decide +kernel
theorem dL_law_699 : decode cL_law 699 = .ok (.aload_n 0, 1) := by decide +kernel
theorem dL_law_700 : decode cL_law 700 = .ok (.iload_n 3, 1) := by decide +kernel
theorem dL_law_701 : decode cL_law 701 = .ok (.iconst 1, 1) := by decide +kernel
theorem dL_law_702 : decode cL_law 702 = .ok (.iadd, 1) := by decide +kernel
theorem dL_law_703 : decode cL_law 703 = .ok (.iaload, 1) := by decide +kernel
theorem dL_law_704 : decode cL_law 704 = .ok (.aload_n 0, 1) := by decide +kernel
theorem dL_law_705 : decode cL_law 705 = .ok (.iload_n 3, 1) := by decide +kernel
theorem dL_law_706 : decode cL_law 706 = .ok (.iconst 2, 1) := by decide +kernel
theorem dL_law_707 : decode cL_law 707 = .ok (.iadd, 1) := by decide +kernel
theorem dL_law_708 : decode cL_law 708 = .ok (.iaload, 1) := by decide +kernel
theorem dL_law_709 : decode cL_law 709 = .ok (.invokevirtual 85, 3) := by decide +kernel
theorem dL_law_712 : decode cL_law 712 = .ok (.aload_n 2, 1) := by decide +kernel
theorem dL_law_713 : decode cL_law 713 = .ok (.aload_n 0, 1) := by decide +kernel
theorem dL_law_714 : decode cL_law 714 = .ok (.iload_n 3, 1) := by decide +kernel
theorem dL_law_715 : decode cL_law 715 = .ok (.iconst 1, 1) := by decide +kernel
theorem dL_law_716 : decode cL_law 716 = .ok (.iadd, 1) := by decide +kernel
theorem dL_law_717 : decode cL_law 717 = .ok (.iaload, 1) := by decide +kernel
theorem dL_law_718 : decode cL_law 718 = .ok (.aload_n 0, 1) := by decide +kernel
theorem dL_law_719 : decode cL_law 719 = .ok (.iload_n 3, 1) := by decide +kernel
theorem dL_law_720 : decode cL_law 720 = .ok (.iconst 2, 1) := by decide +kernel
theorem dL_law_721 : decode cL_law 721 = .ok (.iadd, 1) := by decide +kernel
theorem dL_law_722 : decode cL_law 722 = .ok (.iaload, 1) := by decide +kernel
theorem dL_law_723 : decode cL_law 723 = .ok (.invokevirtual 88, 3) := by decide +kernel
theorem dL_law_726 : decode cL_law 726 = .ok (.if_icmp .eq 416, 3) := by decide +kernel
theorem dL_law_729 : decode cL_law 729 = .ok (.iconst 0, 1) := by decide +kernel
theorem dL_law_730 : decode cL_law 730 = .ok (.ireturn, 1) := by decide +kernel
theorem dL_law_731 : decode cL_law 731 = .ok (.aload_n 1, 1) := by decide +kernel
theorem dL_law_732 : decode cL_law 732 = .ok (.aload_n 0, 1) := by decide +kernel
theorem dL_law_733 : decode cL_law 733 = .ok (.iload_n 3, 1) := by decide +kernel
theorem dL_law_734 : decode cL_law 734 = .ok (.iconst 1, 1) := by decide +kernel
theorem dL_law_735 : decode cL_law 735 = .ok (.iadd, 1) := by decide +kernel
theorem dL_law_736 : decode cL_law 736 = .ok (.iaload, 1) := by decide +kernel
theorem dL_law_737 : decode cL_law 737 = .ok (.aload_n 0, 1) := by decide +kernel
theorem dL_law_738 : decode cL_law 738 = .ok (.iload_n 3, 1) := by decide +kernel
theorem dL_law_739 : decode cL_law 739 = .ok (.iconst 2, 1) := by decide +kernel
theorem dL_law_740 : decode cL_law 740 = .ok (.iadd, 1) := by decide +kernel
theorem dL_law_741 : decode cL_law 741 = .ok (.iaload, 1) := by decide +kernel
theorem dL_law_742 : decode cL_law 742 = .ok (.invokevirtual 89, 3) := by decide +kernel
theorem dL_law_745 : decode cL_law 745 = .ok (.aload_n 2, 1) := by decide +kernel
theorem dL_law_746 : decode cL_law 746 = .ok (.aload_n 0, 1) := by decide +kernel
theorem dL_law_747 : decode cL_law 747 = .ok (.iload_n 3, 1) := by decide +kernel
theorem dL_law_748 : decode cL_law 748 = .ok (.iconst 1, 1) := by decide +kernel
theorem dL_law_749 : decode cL_law 749 = .ok (.iadd, 1) := by decide +kernel
theorem dL_law_750 : decode cL_law 750 = .ok (.iaload, 1) := by decide +kernel
theorem dL_law_751 : decode cL_law 751 = .ok (.aload_n 0, 1) := by decide +kernel
theorem dL_law_752 : decode cL_law 752 = .ok (.iload_n 3, 1) := by decide +kernel
theorem dL_law_753 : decode cL_law 753 = .ok (.iconst 2, 1) := by decide +kernel
theorem dL_law_754 : decode cL_law 754 = .ok (.iadd, 1) := by decide +kernel
theorem dL_law_755 : decode cL_law 755 = .ok (.iaload, 1) := by decide +kernel
theorem dL_law_756 : decode cL_law 756 = .ok (.invokevirtual 92, 3) := by decide +kernel
theorem dL_law_759 : decode cL_law 759 = .ok (.if_icmp .eq 383, 3) := by decide +kernel
theorem dL_law_762 : decode cL_law 762 = .ok (.iconst 0, 1) := by decide +kernel
theorem dL_law_763 : decode cL_law 763 = .ok (.ireturn, 1) := by decide +kernel
theorem dL_law_764 : decode cL_law 764 = .ok (.aload_n 1, 1) := by decide +kernel
theorem dL_law_765 : decode cL_law 765 = .ok (.aload_n 0, 1) := by decide +kernel
theorem dL_law_766 : decode cL_law 766 = .ok (.iload_n 3, 1) := by decide +kernel
theorem dL_law_767 : decode cL_law 767 = .ok (.iconst 1, 1) := by decide +kernel
theorem dL_law_768 : decode cL_law 768 = .ok (.iadd, 1) := by decide +kernel
theorem dL_law_769 : decode cL_law 769 = .ok (.iaload, 1) := by decide +kernel
theorem dL_law_770 : decode cL_law 770 = .ok (.invokevirtual 93, 3) := by decide +kernel
theorem dL_law_773 : decode cL_law 773 = .ok (.aload_n 2, 1) := by decide +kernel
theorem dL_law_774 : decode cL_law 774 = .ok (.aload_n 0, 1) := by decide +kernel
theorem dL_law_775 : decode cL_law 775 = .ok (.iload_n 3, 1) := by decide +kernel
theorem dL_law_776 : decode cL_law 776 = .ok (.iconst 1, 1) := by decide +kernel
theorem dL_law_777 : decode cL_law 777 = .ok (.iadd, 1) := by decide +kernel
theorem dL_law_778 : decode cL_law 778 = .ok (.iaload, 1) := by decide +kernel
theorem dL_law_779 : decode cL_law 779 = .ok (.invokevirtual 96, 3) := by decide +kernel
theorem dL_law_782 : decode cL_law 782 = .ok (.if_icmp .eq 360, 3) := by decide +kernel
theorem dL_law_785 : decode cL_law 785 = .ok (.iconst 0, 1) := by decide +kernel
theorem dL_law_786 : decode cL_law 786 = .ok (.ireturn, 1) := by decide +kernel
theorem dL_law_787 : decode cL_law 787 = .ok (.aload_n 1, 1) := by decide +kernel
theorem dL_law_788 : decode cL_law 788 = .ok (.aload_n 0, 1) := by decide +kernel
theorem dL_law_789 : decode cL_law 789 = .ok (.iload_n 3, 1) := by decide +kernel
theorem dL_law_790 : decode cL_law 790 = .ok (.iconst 1, 1) := by decide +kernel
theorem dL_law_791 : decode cL_law 791 = .ok (.iadd, 1) := by decide +kernel
theorem dL_law_792 : decode cL_law 792 = .ok (.iaload, 1) := by decide +kernel
theorem dL_law_793 : decode cL_law 793 = .ok (.aload_n 0, 1) := by decide +kernel
theorem dL_law_794 : decode cL_law 794 = .ok (.iload_n 3, 1) := by decide +kernel
theorem dL_law_795 : decode cL_law 795 = .ok (.iconst 2, 1) := by decide +kernel
theorem dL_law_796 : decode cL_law 796 = .ok (.iadd, 1) := by decide +kernel
theorem dL_law_797 : decode cL_law 797 = .ok (.iaload, 1) := by decide +kernel
theorem dL_law_798 : decode cL_law 798 = .ok (.invokevirtual 97, 3) := by decide +kernel
theorem dL_law_801 : decode cL_law 801 = .ok (.aload_n 2, 1) := by decide +kernel
theorem dL_law_802 : decode cL_law 802 = .ok (.aload_n 0, 1) := by decide +kernel
theorem dL_law_803 : decode cL_law 803 = .ok (.iload_n 3, 1) := by decide +kernel
theorem dL_law_804 : decode cL_law 804 = .ok (.iconst 1, 1) := by decide +kernel
theorem dL_law_805 : decode cL_law 805 = .ok (.iadd, 1) := by decide +kernel
theorem dL_law_806 : decode cL_law 806 = .ok (.iaload, 1) := by decide +kernel
theorem dL_law_807 : decode cL_law 807 = .ok (.aload_n 0, 1) := by decide +kernel
theorem dL_law_808 : decode cL_law 808 = .ok (.iload_n 3, 1) := by decide +kernel
theorem dL_law_809 : decode cL_law 809 = .ok (.iconst 2, 1) := by decide +kernel
theorem dL_law_810 : decode cL_law 810 = .ok (.iadd, 1) := by decide +kernel
theorem dL_law_811 : decode cL_law 811 = .ok (.iaload, 1) := by decide +kernel
theorem dL_law_812 : decode cL_law 812 = .ok (.invokevirtual 100, 3) := by decide +kernel
theorem dL_law_815 : decode cL_law 815 = .ok (.if_icmp .eq 327, 3) := by decide +kernel
theorem dL_law_818 : decode cL_law 818 = .ok (.iconst 0, 1) := by decide +kernel
theorem dL_law_819 : decode cL_law 819 = .ok (.ireturn, 1) := by decide +kernel
theorem dL_law_820 : decode cL_law 820 = .ok (.aload_n 1, 1) := by decide +kernel
theorem dL_law_821 : decode cL_law 821 = .ok (.aload_n 0, 1) := by decide +kernel
theorem dL_law_822 : decode cL_law 822 = .ok (.iload_n 3, 1) := by decide +kernel
theorem dL_law_823 : decode cL_law 823 = .ok (.iconst 1, 1) := by decide +kernel
theorem dL_law_824 : decode cL_law 824 = .ok (.iadd, 1) := by decide +kernel
theorem dL_law_825 : decode cL_law 825 = .ok (.iaload, 1) := by decide +kernel
theorem dL_law_826 : decode cL_law 826 = .ok (.aload_n 0, 1) := by decide +kernel
theorem dL_law_827 : decode cL_law 827 = .ok (.iload_n 3, 1) := by decide +kernel
theorem dL_law_828 : decode cL_law 828 = .ok (.iconst 2, 1) := by decide +kernel
theorem dL_law_829 : decode cL_law 829 = .ok (.iadd, 1) := by decide +kernel
theorem dL_law_830 : decode cL_law 830 = .ok (.iaload, 1) := by decide +kernel
theorem dL_law_831 : decode cL_law 831 = .ok (.aload_n 0, 1) := by decide +kernel
theorem dL_law_832 : decode cL_law 832 = .ok (.iload_n 3, 1) := by decide +kernel
theorem dL_law_833 : decode cL_law 833 = .ok (.iconst 3, 1) := by decide +kernel
theorem dL_law_834 : decode cL_law 834 = .ok (.iadd, 1) := by decide +kernel
theorem dL_law_835 : decode cL_law 835 = .ok (.iaload, 1) := by decide +kernel
theorem dL_law_836 : decode cL_law 836 = .ok (.invokevirtual 101, 3) := by decide +kernel
theorem dL_law_839 : decode cL_law 839 = .ok (.aload_n 2, 1) := by decide +kernel
theorem dL_law_840 : decode cL_law 840 = .ok (.aload_n 0, 1) := by decide +kernel
theorem dL_law_841 : decode cL_law 841 = .ok (.iload_n 3, 1) := by decide +kernel
theorem dL_law_842 : decode cL_law 842 = .ok (.iconst 1, 1) := by decide +kernel
theorem dL_law_843 : decode cL_law 843 = .ok (.iadd, 1) := by decide +kernel
theorem dL_law_844 : decode cL_law 844 = .ok (.iaload, 1) := by decide +kernel
theorem dL_law_845 : decode cL_law 845 = .ok (.aload_n 0, 1) := by decide +kernel
theorem dL_law_846 : decode cL_law 846 = .ok (.iload_n 3, 1) := by decide +kernel
theorem dL_law_847 : decode cL_law 847 = .ok (.iconst 2, 1) := by decide +kernel
theorem dL_law_848 : decode cL_law 848 = .ok (.iadd, 1) := by decide +kernel
theorem dL_law_849 : decode cL_law 849 = .ok (.iaload, 1) := by decide +kernel
theorem dL_law_850 : decode cL_law 850 = .ok (.aload_n 0, 1) := by decide +kernel
theorem dL_law_851 : decode cL_law 851 = .ok (.iload_n 3, 1) := by decide +kernel
theorem dL_law_852 : decode cL_law 852 = .ok (.iconst 3, 1) := by decide +kernel
theorem dL_law_853 : decode cL_law 853 = .ok (.iadd, 1) := by decide +kernel
theorem dL_law_854 : decode cL_law 854 = .ok (.iaload, 1) := by decide +kernel
theorem dL_law_855 : decode cL_law 855 = .ok (.invokevirtual 104, 3) := by decide +kernel
theorem dL_law_858 : decode cL_law 858 = .ok (.if_icmp .eq 284, 3) := by decide +kernel
theorem dL_law_861 : decode cL_law 861 = .ok (.iconst 0, 1) := by decide +kernel
theorem dL_law_862 : decode cL_law 862 = .ok (.ireturn, 1) := by decide +kernel
theorem dL_law_863 : decode cL_law 863 = .ok (.aload_n 1, 1) := by decide +kernel
theorem dL_law_864 : decode cL_law 864 = .ok (.aload_n 0, 1) := by decide +kernel
theorem dL_law_865 : decode cL_law 865 = .ok (.iload_n 3, 1) := by decide +kernel
theorem dL_law_866 : decode cL_law 866 = .ok (.iconst 1, 1) := by decide +kernel
theorem dL_law_867 : decode cL_law 867 = .ok (.iadd, 1) := by decide +kernel
theorem dL_law_868 : decode cL_law 868 = .ok (.iaload, 1) := by decide +kernel
theorem dL_law_869 : decode cL_law 869 = .ok (.invokevirtual 105, 3) := by decide +kernel
theorem dL_law_872 : decode cL_law 872 = .ok (.aload_n 2, 1) := by decide +kernel
theorem dL_law_873 : decode cL_law 873 = .ok (.aload_n 0, 1) := by decide +kernel
theorem dL_law_874 : decode cL_law 874 = .ok (.iload_n 3, 1) := by decide +kernel
theorem dL_law_875 : decode cL_law 875 = .ok (.iconst 1, 1) := by decide +kernel
theorem dL_law_876 : decode cL_law 876 = .ok (.iadd, 1) := by decide +kernel
theorem dL_law_877 : decode cL_law 877 = .ok (.iaload, 1) := by decide +kernel
theorem dL_law_878 : decode cL_law 878 = .ok (.invokevirtual 108, 3) := by decide +kernel
theorem dL_law_881 : decode cL_law 881 = .ok (.if_icmp .eq 261, 3) := by decide +kernel
theorem dL_law_884 : decode cL_law 884 = .ok (.iconst 0, 1) := by decide +kernel
theorem dL_law_885 : decode cL_law 885 = .ok (.ireturn, 1) := by decide +kernel
theorem dL_law_886 : decode cL_law 886 = .ok (.aload_n 1, 1) := by decide +kernel
theorem dL_law_887 : decode cL_law 887 = .ok (.invokevirtual 109, 3) := by decide +kernel
theorem dL_law_890 : decode cL_law 890 = .ok (.aload_n 2, 1) := by decide +kernel
theorem dL_law_891 : decode cL_law 891 = .ok (.invokevirtual 112, 3) := by decide +kernel
theorem dL_law_894 : decode cL_law 894 = .ok (.if_icmp .eq 248, 3) := by decide +kernel
theorem dL_law_897 : decode cL_law 897 = .ok (.iconst 0, 1) := by decide +kernel
theorem dL_law_898 : decode cL_law 898 = .ok (.ireturn, 1) := by decide +kernel
theorem dL_law_899 : decode cL_law 899 = .ok (.aload_n 1, 1) := by decide +kernel
theorem dL_law_900 : decode cL_law 900 = .ok (.aload_n 0, 1) := by decide +kernel
theorem dL_law_901 : decode cL_law 901 = .ok (.iload_n 3, 1) := by decide +kernel
theorem dL_law_902 : decode cL_law 902 = .ok (.iconst 1, 1) := by decide +kernel
theorem dL_law_903 : decode cL_law 903 = .ok (.iadd, 1) := by decide +kernel
theorem dL_law_904 : decode cL_law 904 = .ok (.iaload, 1) := by decide +kernel
theorem dL_law_905 : decode cL_law 905 = .ok (.aload_n 0, 1) := by decide +kernel
theorem dL_law_906 : decode cL_law 906 = .ok (.iload_n 3, 1) := by decide +kernel
theorem dL_law_907 : decode cL_law 907 = .ok (.iconst 2, 1) := by decide +kernel
theorem dL_law_908 : decode cL_law 908 = .ok (.iadd, 1) := by decide +kernel
theorem dL_law_909 : decode cL_law 909 = .ok (.iaload, 1) := by decide +kernel
theorem dL_law_910 : decode cL_law 910 = .ok (.invokevirtual 113, 3) := by decide +kernel
theorem dL_law_913 : decode cL_law 913 = .ok (.aload_n 2, 1) := by decide +kernel
theorem dL_law_914 : decode cL_law 914 = .ok (.aload_n 0, 1) := by decide +kernel
theorem dL_law_915 : decode cL_law 915 = .ok (.iload_n 3, 1) := by decide +kernel
theorem dL_law_916 : decode cL_law 916 = .ok (.iconst 1, 1) := by decide +kernel
theorem dL_law_917 : decode cL_law 917 = .ok (.iadd, 1) := by decide +kernel
theorem dL_law_918 : decode cL_law 918 = .ok (.iaload, 1) := by decide +kernel
theorem dL_law_919 : decode cL_law 919 = .ok (.aload_n 0, 1) := by decide +kernel
theorem dL_law_920 : decode cL_law 920 = .ok (.iload_n 3, 1) := by decide +kernel
theorem dL_law_921 : decode cL_law 921 = .ok (.iconst 2, 1) := by decide +kernel
theorem dL_law_922 : decode cL_law 922 = .ok (.iadd, 1) := by decide +kernel
theorem dL_law_923 : decode cL_law 923 = .ok (.iaload, 1) := by decide +kernel
theorem dL_law_924 : decode cL_law 924 = .ok (.invokevirtual 116, 3) := by decide +kernel
theorem dL_law_927 : decode cL_law 927 = .ok (.if_icmp .eq 215, 3) := by decide +kernel
theorem dL_law_930 : decode cL_law 930 = .ok (.iconst 0, 1) := by decide +kernel
theorem dL_law_931 : decode cL_law 931 = .ok (.ireturn, 1) := by decide +kernel
theorem dL_law_932 : decode cL_law 932 = .ok (.aload_n 1, 1) := by decide +kernel
theorem dL_law_933 : decode cL_law 933 = .ok (.invokevirtual 117, 3) := by decide +kernel
theorem dL_law_936 : decode cL_law 936 = .ok (.aload_n 2, 1) := by decide +kernel
theorem dL_law_937 : decode cL_law 937 = .ok (.invokevirtual 120, 3) := by decide +kernel
theorem dL_law_940 : decode cL_law 940 = .ok (.if_icmp .eq 202, 3) := by decide +kernel
theorem dL_law_943 : decode cL_law 943 = .ok (.iconst 0, 1) := by decide +kernel
theorem dL_law_944 : decode cL_law 944 = .ok (.ireturn, 1) := by decide +kernel
theorem dL_law_945 : decode cL_law 945 = .ok (.aload_n 1, 1) := by decide +kernel
theorem dL_law_946 : decode cL_law 946 = .ok (.aload_n 0, 1) := by decide +kernel
theorem dL_law_947 : decode cL_law 947 = .ok (.iload_n 3, 1) := by decide +kernel
theorem dL_law_948 : decode cL_law 948 = .ok (.iconst 1, 1) := by decide +kernel
theorem dL_law_949 : decode cL_law 949 = .ok (.iadd, 1) := by decide +kernel
theorem dL_law_950 : decode cL_law 950 = .ok (.iaload, 1) := by decide +kernel
theorem dL_law_951 : decode cL_law 951 = .ok (.aload_n 0, 1) := by decide +kernel
theorem dL_law_952 : decode cL_law 952 = .ok (.iload_n 3, 1) := by decide +kernel
theorem dL_law_953 : decode cL_law 953 = .ok (.iconst 2, 1) := by decide +kernel
theorem dL_law_954 : decode cL_law 954 = .ok (.iadd, 1) := by decide +kernel
theorem dL_law_955 : decode cL_law 955 = .ok (.iaload, 1) := by decide +kernel
theorem dL_law_956 : decode cL_law 956 = .ok (.invokevirtual 121, 3) := by decide +kernel
theorem dL_law_959 : decode cL_law 959 = .ok (.aload_n 2, 1) := by decide +kernel
theorem dL_law_960 : decode cL_law 960 = .ok (.aload_n 0, 1) := by decide +kernel
theorem dL_law_961 : decode cL_law 961 = .ok (.iload_n 3, 1) := by decide +kernel
theorem dL_law_962 : decode cL_law 962 = .ok (.iconst 1, 1) := by decide +kernel
theorem dL_law_963 : decode cL_law 963 = .ok (.iadd, 1) := by decide +kernel
theorem dL_law_964 : decode cL_law 964 = .ok (.iaload, 1) := by decide +kernel
theorem dL_law_965 : decode cL_law 965 = .ok (.aload_n 0, 1) := by decide +kernel
theorem dL_law_966 : decode cL_law 966 = .ok (.iload_n 3, 1) := by decide +kernel
theorem dL_law_967 : decode cL_law 967 = .ok (.iconst 2, 1) := by decide +kernel
theorem dL_law_968 : decode cL_law 968 = .ok (.iadd, 1) := by decide +kernel
theorem dL_law_969 : decode cL_law 969 = .ok (.iaload, 1) := by decide +kernel
theorem dL_law_970 : decode cL_law 970 = .ok (.invokevirtual 124, 3) := by decide +kernel
theorem dL_law_973 : decode cL_law 973 = .ok (.if_icmp .eq 169, 3) := by decide +kernel
theorem dL_law_976 : decode cL_law 976 = .ok (.iconst 0, 1) := by decide +kernel
theorem dL_law_977 : decode cL_law 977 = .ok (.ireturn, 1) := by decide +kernel
theorem dL_law_978 : decode cL_law 978 = .ok (.aload_n 1, 1) := by decide +kernel
theorem dL_law_979 : decode cL_law 979 = .ok (.aload_n 0, 1) := by decide +kernel
theorem dL_law_980 : decode cL_law 980 = .ok (.iload_n 3, 1) := by decide +kernel
theorem dL_law_981 : decode cL_law 981 = .ok (.iconst 1, 1) := by decide +kernel
theorem dL_law_982 : decode cL_law 982 = .ok (.iadd, 1) := by decide +kernel
theorem dL_law_983 : decode cL_law 983 = .ok (.iaload, 1) := by decide +kernel
theorem dL_law_984 : decode cL_law 984 = .ok (.aload_n 0, 1) := by decide +kernel
theorem dL_law_985 : decode cL_law 985 = .ok (.iload_n 3, 1) := by decide +kernel
theorem dL_law_986 : decode cL_law 986 = .ok (.iconst 2, 1) := by decide +kernel
theorem dL_law_987 : decode cL_law 987 = .ok (.iadd, 1) := by decide +kernel
theorem dL_law_988 : decode cL_law 988 = .ok (.iaload, 1) := by decide +kernel
theorem dL_law_989 : decode cL_law 989 = .ok (.invokevirtual 125, 3) := by decide +kernel
theorem dL_law_992 : decode cL_law 992 = .ok (.aload_n 2, 1) := by decide +kernel
theorem dL_law_993 : decode cL_law 993 = .ok (.aload_n 0, 1) := by decide +kernel
theorem dL_law_994 : decode cL_law 994 = .ok (.iload_n 3, 1) := by decide +kernel
theorem dL_law_995 : decode cL_law 995 = .ok (.iconst 1, 1) := by decide +kernel
theorem dL_law_996 : decode cL_law 996 = .ok (.iadd, 1) := by decide +kernel
theorem dL_law_997 : decode cL_law 997 = .ok (.iaload, 1) := by decide +kernel
theorem dL_law_998 : decode cL_law 998 = .ok (.aload_n 0, 1) := by decide +kernel
theorem dL_law_999 : decode cL_law 999 = .ok (.iload_n 3, 1) := by decide +kernel
theorem dL_law_1000 : decode cL_law 1000 = .ok (.iconst 2, 1) := by decide +kernel
theorem dL_law_1001 : decode cL_law 1001 = .ok (.iadd, 1) := by decide +kernel
theorem dL_law_1002 : decode cL_law 1002 = .ok (.iaload, 1) := by decide +kernel
theorem dL_law_1003 : decode cL_law 1003 = .ok (.invokevirtual 128, 3) := by decide +kernel
theorem dL_law_1006 : decode cL_law 1006 = .ok (.if_icmp .eq 136, 3) := by decide +kernel
theorem dL_law_1009 : decode cL_law 1009 = .ok (.iconst 0, 1) := by decide +kernel
theorem dL_law_1010 : decode cL_law 1010 = .ok (.ireturn, 1) := by decide +kernel
theorem dL_law_1011 : decode cL_law 1011 = .ok (.aload_n 1, 1) := by decide +kernel
theorem dL_law_1012 : decode cL_law 1012 = .ok (.aload_n 0, 1) := by decide +kernel
theorem dL_law_1013 : decode cL_law 1013 = .ok (.iload_n 3, 1) := by decide +kernel
theorem dL_law_1014 : decode cL_law 1014 = .ok (.iconst 1, 1) := by decide +kernel
theorem dL_law_1015 : decode cL_law 1015 = .ok (.iadd, 1) := by decide +kernel
theorem dL_law_1016 : decode cL_law 1016 = .ok (.iaload, 1) := by decide +kernel
theorem dL_law_1017 : decode cL_law 1017 = .ok (.invokevirtual 129, 3) := by decide +kernel
theorem dL_law_1020 : decode cL_law 1020 = .ok (.aload_n 2, 1) := by decide +kernel
theorem dL_law_1021 : decode cL_law 1021 = .ok (.aload_n 0, 1) := by decide +kernel
theorem dL_law_1022 : decode cL_law 1022 = .ok (.iload_n 3, 1) := by decide +kernel
theorem dL_law_1023 : decode cL_law 1023 = .ok (.iconst 1, 1) := by decide +kernel
theorem dL_law_1024 : decode cL_law 1024 = .ok (.iadd, 1) := by decide +kernel
theorem dL_law_1025 : decode cL_law 1025 = .ok (.iaload, 1) := by decide +kernel
theorem dL_law_1026 : decode cL_law 1026 = .ok (.invokevirtual 132, 3) := by decide +kernel
theorem dL_law_1029 : decode cL_law 1029 = .ok (.if_icmp .eq 113, 3) := by decide +kernel
theorem dL_law_1032 : decode cL_law 1032 = .ok (.iconst 0, 1) := by decide +kernel
theorem dL_law_1033 : decode cL_law 1033 = .ok (.ireturn, 1) := by decide +kernel
theorem dL_law_1034 : decode cL_law 1034 = .ok (.aload_n 1, 1) := by decide +kernel
theorem dL_law_1035 : decode cL_law 1035 = .ok (.invokevirtual 133, 3) := by decide +kernel
theorem dL_law_1038 : decode cL_law 1038 = .ok (.aload_n 2, 1) := by decide +kernel
theorem dL_law_1039 : decode cL_law 1039 = .ok (.invokevirtual 136, 3) := by decide +kernel
theorem dL_law_1042 : decode cL_law 1042 = .ok (.if_icmp .eq 100, 3) := by decide +kernel
theorem dL_law_1045 : decode cL_law 1045 = .ok (.iconst 0, 1) := by decide +kernel
theorem dL_law_1046 : decode cL_law 1046 = .ok (.ireturn, 1) := by decide +kernel
theorem dL_law_1047 : decode cL_law 1047 = .ok (.aload_n 1, 1) := by decide +kernel
theorem dL_law_1048 : decode cL_law 1048 = .ok (.aload_n 0, 1) := by decide +kernel
theorem dL_law_1049 : decode cL_law 1049 = .ok (.iload_n 3, 1) := by decide +kernel
theorem dL_law_1050 : decode cL_law 1050 = .ok (.iconst 1, 1) := by decide +kernel
theorem dL_law_1051 : decode cL_law 1051 = .ok (.iadd, 1) := by decide +kernel
theorem dL_law_1052 : decode cL_law 1052 = .ok (.iaload, 1) := by decide +kernel
theorem dL_law_1053 : decode cL_law 1053 = .ok (.invokevirtual 137, 3) := by decide +kernel
theorem dL_law_1056 : decode cL_law 1056 = .ok (.aload_n 2, 1) := by decide +kernel
theorem dL_law_1057 : decode cL_law 1057 = .ok (.aload_n 0, 1) := by decide +kernel
theorem dL_law_1058 : decode cL_law 1058 = .ok (.iload_n 3, 1) := by decide +kernel
theorem dL_law_1059 : decode cL_law 1059 = .ok (.iconst 1, 1) := by decide +kernel
theorem dL_law_1060 : decode cL_law 1060 = .ok (.iadd, 1) := by decide +kernel
theorem dL_law_1061 : decode cL_law 1061 = .ok (.iaload, 1) := by decide +kernel
theorem dL_law_1062 : decode cL_law 1062 = .ok (.invokevirtual 140, 3) := by decide +kernel
theorem dL_law_1065 : decode cL_law 1065 = .ok (.if_icmp .eq 77, 3) := by decide +kernel
theorem dL_law_1068 : decode cL_law 1068 = .ok (.iconst 0, 1) := by decide +kernel
theorem dL_law_1069 : decode cL_law 1069 = .ok (.ireturn, 1) := by decide +kernel
theorem dL_law_1070 : decode cL_law 1070 = .ok (.aload_n 1, 1) := by decide +kernel
theorem dL_law_1071 : decode cL_law 1071 = .ok (.aload_n 0, 1) := by decide +kernel
theorem dL_law_1072 : decode cL_law 1072 = .ok (.iload_n 3, 1) := by decide +kernel
theorem dL_law_1073 : decode cL_law 1073 = .ok (.iconst 1, 1) := by decide +kernel
theorem dL_law_1074 : decode cL_law 1074 = .ok (.iadd, 1) := by decide +kernel
theorem dL_law_1075 : decode cL_law 1075 = .ok (.iaload, 1) := by decide +kernel
theorem dL_law_1076 : decode cL_law 1076 = .ok (.invokevirtual 141, 3) := by decide +kernel
theorem dL_law_1079 : decode cL_law 1079 = .ok (.aload_n 2, 1) := by decide +kernel
theorem dL_law_1080 : decode cL_law 1080 = .ok (.aload_n 0, 1) := by decide +kernel
theorem dL_law_1081 : decode cL_law 1081 = .ok (.iload_n 3, 1) := by decide +kernel
theorem dL_law_1082 : decode cL_law 1082 = .ok (.iconst 1, 1) := by decide +kernel
theorem dL_law_1083 : decode cL_law 1083 = .ok (.iadd, 1) := by decide +kernel
theorem dL_law_1084 : decode cL_law 1084 = .ok (.iaload, 1) := by decide +kernel
theorem dL_law_1085 : decode cL_law 1085 = .ok (.invokevirtual 144, 3) := by decide +kernel
theorem dL_law_1088 : decode cL_law 1088 = .ok (.if_icmp .eq 54, 3) := by decide +kernel
theorem dL_law_1091 : decode cL_law 1091 = .ok (.iconst 0, 1) := by decide +kernel
theorem dL_law_1092 : decode cL_law 1092 = .ok (.ireturn, 1) := by decide +kernel
theorem dL_law_1093 : decode cL_law 1093 = .ok (.aload_n 1, 1) := by decide +kernel
theorem dL_law_1094 : decode cL_law 1094 = .ok (.invokevirtual 145, 3) := by decide +kernel
theorem dL_law_1097 : decode cL_law 1097 = .ok (.aload_n 2, 1) := by decide +kernel
theorem dL_law_1098 : decode cL_law 1098 = .ok (.invokevirtual 148, 3) := by decide +kernel
theorem dL_law_1101 : decode cL_law 1101 = .ok (.if_icmp .eq 41, 3) := by decide +kernel
theorem dL_law_1104 : decode cL_law 1104 = .ok (.iconst 0, 1) := by decide +kernel
theorem dL_law_1105 : decode cL_law 1105 = .ok (.ireturn, 1) := by decide +kernel
theorem dL_law_1106 : decode cL_law 1106 = .ok (.aload_n 1, 1) := by decide +kernel
theorem dL_law_1107 : decode cL_law 1107 = .ok (.invokevirtual 149, 3) := by decide +kernel
theorem dL_law_1110 : decode cL_law 1110 = .ok (.aload_n 2, 1) := by decide +kernel
theorem dL_law_1111 : decode cL_law 1111 = .ok (.invokevirtual 152, 3) := by decide +kernel
theorem dL_law_1114 : decode cL_law 1114 = .ok (.if_icmp .eq 28, 3) := by decide +kernel
theorem dL_law_1117 : decode cL_law 1117 = .ok (.iconst 0, 1) := by decide +kernel
theorem dL_law_1118 : decode cL_law 1118 = .ok (.ireturn, 1) := by decide +kernel
theorem dL_law_1119 : decode cL_law 1119 = .ok (.aload_n 1, 1) := by decide +kernel
theorem dL_law_1120 : decode cL_law 1120 = .ok (.aload_n 0, 1) := by decide +kernel
theorem dL_law_1121 : decode cL_law 1121 = .ok (.iload_n 3, 1) := by decide +kernel
theorem dL_law_1122 : decode cL_law 1122 = .ok (.iconst 1, 1) := by decide +kernel
theorem dL_law_1123 : decode cL_law 1123 = .ok (.iadd, 1) := by decide +kernel
theorem dL_law_1124 : decode cL_law 1124 = .ok (.iaload, 1) := by decide +kernel
theorem dL_law_1125 : decode cL_law 1125 = .ok (.invokevirtual 153, 3) := by decide +kernel
theorem dL_law_1128 : decode cL_law 1128 = .ok (.aload_n 2, 1) := by decide +kernel
theorem dL_law_1129 : decode cL_law 1129 = .ok (.aload_n 0, 1) := by decide +kernel
theorem dL_law_1130 : decode cL_law 1130 = .ok (.iload_n 3, 1) := by decide +kernel
theorem dL_law_1131 : decode cL_law 1131 = .ok (.iconst 1, 1) := by decide +kernel
theorem dL_law_1132 : decode cL_law 1132 = .ok (.iadd, 1) := by decide +kernel
theorem dL_law_1133 : decode cL_law 1133 = .ok (.iaload, 1) := by decide +kernel
theorem dL_law_1134 : decode cL_law 1134 = .ok (.invokevirtual 156, 3) := by decide +kernel
theorem dL_law_1137 : decode cL_law 1137 = .ok (.if_icmp .eq 5, 3) := by decide +kernel
theorem dL_law_1140 : decode cL_law 1140 = .ok (.iconst 0, 1) := by decide +kernel
theorem dL_law_1141 : decode cL_law 1141 = .ok (.ireturn, 1) := by decide +kernel
theorem dL_law_1142 : decode cL_law 1142 = .ok (.iinc 3 4, 3) := by decide +kernel
theorem dL_law_1145 : decode cL_law 1145 = .ok (.goto (-1127), 3) := by decide +kernel
theorem dL_law_1148 : decode cL_law 1148 = .ok (.iconst 1, 1) := by decide +kernel
theorem dL_law_1149 : decode cL_law 1149 = .ok (.ireturn, 1) := by decide +kernel
end
section
/-! THE ABSTRACT MACHINE. A world is a fixed set of cells; a memory is what their number slots hold; 'Sim .. F' says: if the pure value F is some (r, M'), the machine comes from here to its method's end with answer r and memory M'. -/
/-- the words that every contract takes: the tables' good ones -/
def Ug : List Cond := lw_tbl.filter goodWord
theorem Ug_good : GoodIn Ug Ug := fun w h => ⟨h, good_of_word (List.mem_filter.mp h).2⟩
theorem Ug_tbl {w : Cond} (h : w ∈ Ug) : w ∈ lw_tbl := (List.mem_filter.mp h).1
theorem ug_t {w : Cond} (h : w ∈ tables_1) (g : goodWord w = true) : w ∈ Ug := List.mem_filter.mpr ⟨List.mem_append_right _ h, g⟩
theorem ug_1 {w : Cond} (h : w ∈ tables_1_1) (g : goodWord w = true) : w ∈ Ug := ug_t (List.mem_append_left _ h) g
theorem ug_2 {w : Cond} (h : w ∈ tables_1_2) (g : goodWord w = true) : w ∈ Ug := ug_t (List.mem_append_right _ (List.mem_append_left _ h)) g
theorem ug_3 {w : Cond} (h : w ∈ tables_1_3) (g : goodWord w = true) : w ∈ Ug := ug_t (List.mem_append_right _ (List.mem_append_right _ (List.mem_append_left _ h))) g
theorem ug_4 {w : Cond} (h : w ∈ tables_1_4) (g : goodWord w = true) : w ∈ Ug := ug_t (List.mem_append_right _ (List.mem_append_right _ (List.mem_append_right _ (List.mem_append_left _ h)))) g
theorem ug_5 {w : Cond} (h : w ∈ tables_1_5) (g : goodWord w = true) : w ∈ Ug := ug_t (List.mem_append_right _ (List.mem_append_right _ (List.mem_append_right _ (List.mem_append_right _ (List.mem_append_left _ h))))) g
theorem ug_6 {w : Cond} (h : w ∈ tables_1_6) (g : goodWord w = true) : w ∈ Ug := ug_t (List.mem_append_right _ (List.mem_append_right _ (List.mem_append_right _ (List.mem_append_right _ (List.mem_append_right _ h))))) g
theorem ug_p {q : MethodName × Nat} (h : q ∈ lw_privs) : Cond.selects q.1.cls q.1 q.1 ∈ Ug := List.mem_filter.mpr ⟨List.mem_append_left _ (List.mem_map.mpr ⟨q, h, rfl⟩), rfl⟩
/-- a memory: what cell a holds at slot i, whole numbers of 32 and of 64 bits -/
abbrev Mm : Type := (Nat → Nat → Int32) × (Nat → Nat → Int64)
def wI (M : Mm) (a i : Nat) (v : Int32) : Mm := (fun b => if b = a then upd (M.1 a) i v else M.1 b, M.2)
def wL (M : Mm) (a i : Nat) (v : Int64) : Mm := (M.1, fun b => if b = a then vp_updL (M.2 a) i v else M.2 b)
/-- a whole row of a cell -/
def wR (M : Mm) (a : Nat) (f : Nat → Int32) : Mm := (fun b => if b = a then f else M.1 b, M.2)
abbrev Rs : Type := Option (Int32 × Mm)
def bd (x : Rs) (G : Int32 → Mm → Rs) : Rs := match x with
  | none => none
  | some (r, m) => G r m
def lt' {α β : Type} (a : α) (k : α → β) : β := k a
abbrev ix (i : Int32) : Nat := i.toNatClampNeg
def inb (i : Int32) (n : Nat) : Bool := decide (0 ≤ i.toInt) && decide (i.toInt < (n : Int))
theorem inb_in {i : Int32} {n : Nat} (h : inb i n = true) : vp_in i n := by
  unfold inb at h
  simp only [Bool.and_eq_true, decide_eq_true_eq] at h
  exact vp_in_iff.mpr h
def bz (v : Int32) : Bool := decide (v = 0) || decide (v = 1)
theorem bz_nar {v : Int32} (h : bz v = true) : narrow .boolean (.int v) = .int v := by
  unfold bz at h
  simp only [Bool.or_eq_true, decide_eq_true_eq] at h
  rcases h with rfl | rfl <;> rfl
theorem bz_fits {v : Int32} (h : bz v = true) : fits .boolean (.int v) = true := by
  unfold bz at h
  simp only [Bool.or_eq_true, decide_eq_true_eq] at h
  rcases h with rfl | rfl <;> rfl
/-- what a world is made of: the classes' numbers and slots; the cells' addresses; the array classes (ints, longs, booleans, rules); the static tables -/
abbrev W0 : Type := va_G × (Nat → Nat) × (Nat → ClassId) × (Nat → Nat)
abbrev rf (w : W0) (k : Nat) : Value := .ref (w.2.1 k)
abbrev Ent : Type := W0 → Nat → (Nat → Int32) → (Nat → Int64) → va_E
/-- a kind of world: how many cells, what each is, whether it knows the static tables -/
abbrev Wk : Type := Nat × Ent × Bool
def wsOf (K : Wk) (w : W0) (M : Mm) : va_W := (List.range K.1).map fun k => (w.2.1 k, K.2.1 w k (M.1 k) (M.2 k))
theorem wsOf_get {K : Wk} {w : W0} {M : Mm} {k : Nat} (h : k < K.1) : (wsOf K w M)[k]? = some (w.2.1 k, K.2.1 w k (M.1 k) (M.2 k)) := by
  unfold wsOf
  rw [List.getElem?_map, List.getElem?_range h]
  rfl
theorem wsOf_of {K : Wk} {w : W0} {M : Mm} {k : Nat} {q : Nat × va_E} (h : (wsOf K w M)[k]? = some q) : k < K.1 ∧ q = (w.2.1 k, K.2.1 w k (M.1 k) (M.2 k)) := by
  have hl : k < K.1 := by
    have h1 := (List.getElem?_eq_some_iff.mp h).1
    unfold wsOf at h1
    simpa using h1
  rw [wsOf_get hl] at h
  exact ⟨hl, (Option.some.inj h).symm⟩
/-- the cells that a world may change -/
def AV (K : Wk) (w : W0) : Nat → Prop := fun a => ∃ k, k < K.1 ∧ a = w.2.1 k
def Apart (K : Wk) (w : W0) : Prop := ∀ i j, i < K.1 → j < K.1 → w.2.1 i = w.2.1 j → i = j
theorem ap_D {K : Wk} {w : W0} (h : Apart K w) (M : Mm) : va_D (AV K w) (wsOf K w M) := by
  refine ⟨fun i j p q hp hq he => ?_, fun k q hk => ?_⟩
  · obtain ⟨h1, rfl⟩ := wsOf_of hp
    obtain ⟨h2, rfl⟩ := wsOf_of hq
    exact h i j h1 h2 he
  · obtain ⟨h1, rfl⟩ := wsOf_of hk
    exact ⟨k, h1, rfl⟩
theorem wsOf_set {K : Wk} {w : W0} {M M' : Mm} {k : Nat} {e : va_E} (hk : k < K.1) (he : e = K.2.1 w k (M'.1 k) (M'.2 k)) (h1 : ∀ j, j ≠ k → M'.1 j = M.1 j) (h2 : ∀ j, j ≠ k → M'.2 j = M.2 j) : (wsOf K w M).set k (w.2.1 k, e) = wsOf K w M' := by
  apply List.ext_getElem?
  intro j
  by_cases hj : j = k
  · subst hj
    rw [List.getElem?_set_self (by unfold wsOf; simpa using hk), wsOf_get hk, he]
  · rw [List.getElem?_set_ne (fun q => hj q.symm)]
    by_cases hl : j < K.1
    · rw [wsOf_get hl, wsOf_get hl, h1 j hj, h2 j hj]
    · rw [List.getElem?_eq_none (by unfold wsOf; simpa using hl), List.getElem?_eq_none (by unfold wsOf; simpa using hl)]
def tysOf (w : W0) : List (ClassId × FieldType) := [(w.2.2.1 0, .int), (w.2.2.1 1, .long), (w.2.2.1 2, .boolean), (w.2.2.1 3, .object "FerryPlans$Rule")]
def g0 (j : Nat) : Int32 := match j with | 2 => 999 | 5 => 9 | _ => 99
def g1 (j : Nat) : Int32 := match j with | 0 => 1 | _ => 0
def g2 (j : Nat) : Int32 := match j with | 0 => 50 | 1 => 999 | _ => 4
def yAlike : MethodName := ⟨"FerryPlans", "alike", "(III)I"⟩
/-- the static tables of the class, and the one link between nest mates that a method of a made object uses -/
def Sg (w : W0) (A : Nat → Prop) (U : State) (H : Heap) : Prop :=
  va_Z "FerryPlans" "GREATEST" "[I" (.ref (w.2.2.2 0)) A U H ∧ va_T .int (w.2.2.2 0) 6 (fun j => .int (g0 j)) A U H ∧
  va_Z "FerryPlans" "COMMON_LEAST" "[I" (.ref (w.2.2.2 1)) A U H ∧ va_T .int (w.2.2.2 1) 3 (fun j => .int (g1 j)) A U H ∧
  va_Z "FerryPlans" "COMMON_GREATEST" "[I" (.ref (w.2.2.2 2)) A U H ∧ va_T .int (w.2.2.2 2) 3 (fun j => .int (g2 j)) A U H ∧
  va_Nw (.methodLinkNest "FerryPlans$Laws" 62 yAlike "FerryPlans") U
theorem Sg.warm {w : W0} {A : Nat → Prop} {s U : State} {H : Heap} (hW : s.WarmedH U.vm) (h : Sg w A s H) : Sg w A U H := by
  obtain ⟨h1, h2, h3, h4, h5, h6, h7⟩ := h
  exact ⟨h1.moved hW.alike, h2.moved hW.alike, h3.moved hW.alike, h4.moved hW.alike, h5.moved hW.alike, h6.moved hW.alike, va_Nw.warmM hW h7⟩
theorem Sg.same {w : W0} {A : Nat → Prop} {s U : State} {H : Heap} (hv : s.vm = U.vm) (h : Sg w A s H) : Sg w A U H := by
  obtain ⟨h1, h2, h3, h4, h5, h6, h7⟩ := h
  have ha : s.vm.Alike U.vm := by rw [hv]; exact Vm.Alike.refl _
  exact ⟨h1.moved ha, h2.moved ha, h3.moved ha, h4.moved ha, h5.moved ha, h6.moved ha, va_Nw.same rfl hv h7⟩
theorem Sg.kept {w : W0} {A : Nat → Prop} {U : State} {H H1 : Heap} (h : Sg w A U H) (hq : ∀ a : Nat, a < H.size → ¬ A a → H1[a]? = H[a]?) : Sg w A U H1 := by
  obtain ⟨h1, h2, h3, h4, h5, h6, h7⟩ := h
  exact ⟨h1.kept hq, h2.kept hq, h3.kept hq, h4.kept hq, h5.kept hq, h6.kept hq, h7⟩
def Ex (K : Wk) (w : W0) (U : State) (H : Heap) : Prop := K.2.2 = true → Sg w (AV K w) U H
/-- a method's start -/
def PreM (K : Wk) (w : W0) (M : Mm) : State → Prop := fun U => va_P w.1 vwCl (wsOf K w M) U.heap ∧ va_K w.1 vwCl (tysOf w) U ∧ Apart K w ∧ Ex K w U U.heap
/-- a method's end -/
def Qof (K : Wk) (w : W0) (vd : Bool) (r : Int32) (M' : Mm) : Array Value → State → Outcome → State → Prop := fun _ st o t =>
  o = .returned (if vd then none else some (.int r)) ∧ va_P w.1 vwCl (wsOf K w M') t.heap ∧ va_F (AV K w) st t
def rmd (d : Nat) : Room := { frames := d, cells := 0, slots := 0, locals := 64 * d }
/-- a method's contract: from memory M, with these arguments, what F says -/
def Ct (l : Launch) (K : Wk) (w : W0) (d : Nat) (y : MethodName) (cc : ByteArray) (nL : Nat) (ret : Option FieldType) (av : List Value) (M : Mm) (F : Rs) : Prop :=
  ∀ r M', F = some (r, M') → Met l y (Cond.code y cc nL ret :: Ug) (rmd d) (va_Pc av (PreM K w M)) (Qof K w ret.isNone r M') 0 0 (AV K w)
theorem blindM {K : Wk} {w : W0} {M : Mm} {av : List Value} : FrameBlind (va_Pc av (PreM K w M)) := by
  intro a U g mk h
  obtain ⟨h0, h1, h2, h3, h4⟩ := h
  exact ⟨h0, h1, va_K.moved (u := U) (U := U.calling g mk a) (Vm.Alike.refl U.vm) h2, h3, fun q => (h4 q).same (U := U.calling g mk a) rfl⟩
/-- the machine around a stretch of code: program, launch, oracle, room, start, method, arguments, frames below, method and code; how many locals; what it returns -/
abbrev Zx : Type := (Program × Launch × Env × Room × State) × (MethodId × Array Value × List Frame × Method × Code) × Nat × Option FieldType
def Lc (ls : Array Slot) (nL : Nat) (L : List Value) : Prop := lv_has ls nL [] ∧ ∀ (i : Nat) (v : Value), L[i]? = some v → v ≠ .null → ls[i]? = some (.val v)
def WZ (Z : Zx) (H : Heap) (locs : List Loc) (Q : State → Prop) (g : JFrame) : Prop := W Z.1.1 Z.1.2.1 Z.1.2.2.1 Z.1.2.2.2.1 Z.1.2.2.2.2 Z.2.1.1 Z.2.1.2.1 Z.2.1.2.2.1 Z.2.1.2.2.2.1 Z.2.1.2.2.2.2 H locs 0 0 Q g
def QZ (K : Wk) (w : W0) (Z : Zx) (r : Int32) (M' : Mm) : State → Prop := MQ Z.2.1.2.2.1 (Qof K w Z.2.2.2.isNone r M') Z.2.1.2.1 Z.1.2.2.2.2 0 0 (AV K w)
def Sim (K : Wk) (w : W0) (Z : Zx) (pc : Nat) (L st : List Value) (M : Mm) (F : Rs) : Prop :=
  ∀ r M', F = some (r, M') → ∀ (ls : Array Slot) (H : Heap) (locs : List Loc), Lc ls Z.2.2.1 L → va_P w.1 vwCl (wsOf K w M) H → va_S (AV K w) Z.1.2.2.2.2.heap H locs → WZ Z H locs (QZ K w Z r M') (F0 Z.2.1.1 pc ls st)
/-- what holds around a method's body -/
def Good (K : Wk) (w : W0) (Z : Zx) (cc : ByteArray) (own : String) (D : Nat) : Prop :=
  Z.1.1.tables.exec = Jvm.exec ∧ Z.2.1.2.2.2.2.code = cc ∧ Z.2.1.2.2.2.2.maxLocals = Z.2.2.1 ∧ Z.1.2.2.2.2.vm.findClass own = some Z.2.1.1.cls ∧ (∀ u ∈ Ug, u.before Z.2.1.2.1 Z.1.2.2.2.2 = true) ∧ Z.2.1.2.2.2.1.locks = false ∧ Z.2.1.2.2.2.1.sig.returnType = Z.2.2.2 ∧ va_K w.1 vwCl (tysOf w) Z.1.2.2.2.2 ∧ Apart K w ∧ Ex K w Z.1.2.2.2.2 Z.1.2.2.2.2.heap ∧ Z.1.2.2.2.1 = rmd D
section Rows
variable {K : Wk} {w : W0} {Z : Zx} {cc : ByteArray} {own : String} {D pc pc' : Nat} {L st : List Value} {M : Mm} {F A B : Rs}
theorem r_none : Sim K w Z pc L st M none := fun r M' h => by cases h
theorem r_lt {α : Type} {a : α} {k : α → Rs} (h : ∀ j, j = a → Sim K w Z pc L st M (k j)) : Sim K w Z pc L st M (lt' a k) := h a rfl
theorem r_ltM {k : Mm → Rs} (h : ∀ M1, Sim K w Z pc L st M1 (k M1)) : Sim K w Z pc L st M (lt' M k) := h M
theorem r_ltI {x : Int32} {k : Int32 → Rs} (h : ∀ y, Sim K w Z pc L (.int y :: st) M (k y)) : Sim K w Z pc L (.int x :: st) M (lt' x k) := h x
theorem r_ltL {x : Int64} {k : Int64 → Rs} (h : ∀ y, Sim K w Z pc L (.long y :: st) M (k y)) : Sim K w Z pc L (.long x :: st) M (lt' x k) := h x
theorem r_iadd {a b : Int32} (g : Good K w Z cc own D) (hd : decode cc pc = .ok (.iadd, 1)) (hp : pc + 1 = pc') (k : Sim K w Z pc' L (.int (a + b) :: st) M F) : Sim K w Z pc L (.int b :: .int a :: st) M F := by
  subst hp; exact fun r M' h ls H lo h1 h2 h3 => lv_iadd g.1 g.2.1 hd (k r M' h ls H lo h1 h2 h3)
theorem r_isub {a b : Int32} (g : Good K w Z cc own D) (hd : decode cc pc = .ok (.isub, 1)) (hp : pc + 1 = pc') (k : Sim K w Z pc' L (.int (a - b) :: st) M F) : Sim K w Z pc L (.int b :: .int a :: st) M F := by
  subst hp; exact fun r M' h ls H lo h1 h2 h3 => lv_isub g.1 g.2.1 hd (k r M' h ls H lo h1 h2 h3)
theorem r_imul {a b : Int32} (g : Good K w Z cc own D) (hd : decode cc pc = .ok (.imul, 1)) (hp : pc + 1 = pc') (k : Sim K w Z pc' L (.int (a * b) :: st) M F) : Sim K w Z pc L (.int b :: .int a :: st) M F := by
  subst hp; exact fun r M' h ls H lo h1 h2 h3 => lv_imul g.1 g.2.1 hd (k r M' h ls H lo h1 h2 h3)
theorem r_iand {a b : Int32} (g : Good K w Z cc own D) (hd : decode cc pc = .ok (.iand, 1)) (hp : pc + 1 = pc') (k : Sim K w Z pc' L (.int (a &&& b) :: st) M F) : Sim K w Z pc L (.int b :: .int a :: st) M F := by
  subst hp; exact fun r M' h ls H lo h1 h2 h3 => lv_iand g.1 g.2.1 hd (k r M' h ls H lo h1 h2 h3)
theorem r_ior {a b : Int32} (g : Good K w Z cc own D) (hd : decode cc pc = .ok (.ior, 1)) (hp : pc + 1 = pc') (k : Sim K w Z pc' L (.int (a ||| b) :: st) M F) : Sim K w Z pc L (.int b :: .int a :: st) M F := by
  subst hp; exact fun r M' h ls H lo h1 h2 h3 => lv_ior g.1 g.2.1 hd (k r M' h ls H lo h1 h2 h3)
theorem r_ixor {a b : Int32} (g : Good K w Z cc own D) (hd : decode cc pc = .ok (.ixor, 1)) (hp : pc + 1 = pc') (k : Sim K w Z pc' L (.int (a ^^^ b) :: st) M F) : Sim K w Z pc L (.int b :: .int a :: st) M F := by
  subst hp; exact fun r M' h ls H lo h1 h2 h3 => lv_ixor g.1 g.2.1 hd (k r M' h ls H lo h1 h2 h3)
theorem r_ineg {a : Int32} (g : Good K w Z cc own D) (hd : decode cc pc = .ok (.ineg, 1)) (hp : pc + 1 = pc') (k : Sim K w Z pc' L (.int (-a) :: st) M F) : Sim K w Z pc L (.int a :: st) M F := by
  subst hp; exact fun r M' h ls H lo h1 h2 h3 => lv_ineg g.1 g.2.1 hd (k r M' h ls H lo h1 h2 h3)
theorem r_ishl {a b : Int32} (g : Good K w Z cc own D) (hd : decode cc pc = .ok (.ishl, 1)) (hp : pc + 1 = pc') (k : Sim K w Z pc' L (.int (a <<< (b &&& 31)) :: st) M F) : Sim K w Z pc L (.int b :: .int a :: st) M F := by
  subst hp; exact fun r M' h ls H lo h1 h2 h3 => lv_ishl g.1 g.2.1 hd (k r M' h ls H lo h1 h2 h3)
theorem r_ishr {a b : Int32} (g : Good K w Z cc own D) (hd : decode cc pc = .ok (.ishr, 1)) (hp : pc + 1 = pc') (k : Sim K w Z pc' L (.int (a >>> (b &&& 31)) :: st) M F) : Sim K w Z pc L (.int b :: .int a :: st) M F := by
  subst hp; exact fun r M' h ls H lo h1 h2 h3 => lv_ishr g.1 g.2.1 hd (k r M' h ls H lo h1 h2 h3)
def ushr (x y : Int32) : Int32 := (x.toUInt32 >>> (y.toUInt32 &&& Int32.toUInt32 31)).toInt32
theorem r_iushr {a b : Int32} (g : Good K w Z cc own D) (hd : decode cc pc = .ok (.iushr, 1)) (hp : pc + 1 = pc') (k : Sim K w Z pc' L (.int (ushr a b) :: st) M F) : Sim K w Z pc L (.int b :: .int a :: st) M F := by
  subst hp; exact fun r M' h ls H lo h1 h2 h3 => lv_iushr g.1 g.2.1 hd rfl (k r M' h ls H lo h1 h2 h3)
theorem r_idiv {a b : Int32} (g : Good K w Z cc own D) (hd : decode cc pc = .ok (.idiv, 1)) (hp : pc + 1 = pc') (hb : ¬ b = 0) (k : Sim K w Z pc' L (.int (a / b) :: st) M F) : Sim K w Z pc L (.int b :: .int a :: st) M F := by
  subst hp; exact fun r M' h ls H lo h1 h2 h3 => lv_idiv g.1 g.2.1 hd hb (k r M' h ls H lo h1 h2 h3)
theorem r_irem {a b : Int32} (g : Good K w Z cc own D) (hd : decode cc pc = .ok (.irem, 1)) (hp : pc + 1 = pc') (hb : ¬ b = 0) (k : Sim K w Z pc' L (.int (a - a / b * b) :: st) M F) : Sim K w Z pc L (.int b :: .int a :: st) M F := by
  subst hp; exact fun r M' h ls H lo h1 h2 h3 => lv_irem g.1 g.2.1 hd hb (k r M' h ls H lo h1 h2 h3)
theorem r_land {a b : Int64} (g : Good K w Z cc own D) (hd : decode cc pc = .ok (.land, 1)) (hp : pc + 1 = pc') (k : Sim K w Z pc' L (.long (a &&& b) :: st) M F) : Sim K w Z pc L (.long b :: .long a :: st) M F := by
  subst hp; exact fun r M' h ls H lo h1 h2 h3 => lv_land g.1 g.2.1 hd (k r M' h ls H lo h1 h2 h3)
theorem r_lor {a b : Int64} (g : Good K w Z cc own D) (hd : decode cc pc = .ok (.lor, 1)) (hp : pc + 1 = pc') (k : Sim K w Z pc' L (.long (a ||| b) :: st) M F) : Sim K w Z pc L (.long b :: .long a :: st) M F := by
  subst hp; exact fun r M' h ls H lo h1 h2 h3 => lv_lor g.1 g.2.1 hd (k r M' h ls H lo h1 h2 h3)
def lshl (x : Int64) (y : Int32) : Int64 := x <<< (y.toInt64 &&& 63)
def lshr (x : Int64) (y : Int32) : Int64 := x >>> (y.toInt64 &&& 63)
def lushr (x : Int64) (y : Int32) : Int64 := (x.toUInt64 >>> (y.toInt64.toUInt64 &&& Int64.toUInt64 63)).toInt64
theorem r_lshl {a : Int64} {b : Int32} (g : Good K w Z cc own D) (hd : decode cc pc = .ok (.lshl, 1)) (hp : pc + 1 = pc') (k : Sim K w Z pc' L (.long (lshl a b) :: st) M F) : Sim K w Z pc L (.int b :: .long a :: st) M F := by
  subst hp; exact fun r M' h ls H lo h1 h2 h3 => lv_lshl g.1 g.2.1 hd rfl (k r M' h ls H lo h1 h2 h3)
theorem r_lshr {a : Int64} {b : Int32} (g : Good K w Z cc own D) (hd : decode cc pc = .ok (.lshr, 1)) (hp : pc + 1 = pc') (k : Sim K w Z pc' L (.long (lshr a b) :: st) M F) : Sim K w Z pc L (.int b :: .long a :: st) M F := by
  subst hp; exact fun r M' h ls H lo h1 h2 h3 => lv_lshr g.1 g.2.1 hd rfl (k r M' h ls H lo h1 h2 h3)
theorem r_lushr {a : Int64} {b : Int32} (g : Good K w Z cc own D) (hd : decode cc pc = .ok (.lushr, 1)) (hp : pc + 1 = pc') (k : Sim K w Z pc' L (.long (lushr a b) :: st) M F) : Sim K w Z pc L (.int b :: .long a :: st) M F := by
  subst hp; exact fun r M' h ls H lo h1 h2 h3 => lv_lushr g.1 g.2.1 hd rfl (k r M' h ls H lo h1 h2 h3)
theorem r_lcmp {a b : Int64} (g : Good K w Z cc own D) (hd : decode cc pc = .ok (.lcmp, 1)) (hp : pc + 1 = pc') (k : Sim K w Z pc' L (.int (lg_cmp a b) :: st) M F) : Sim K w Z pc L (.long b :: .long a :: st) M F := by
  subst hp; exact fun r M' h ls H lo h1 h2 h3 => W.lcmp g.1 g.2.1 hd (k r M' h ls H lo h1 h2 h3)
theorem r_i2l {a : Int32} (g : Good K w Z cc own D) (hd : decode cc pc = .ok (.i2l, 1)) (hp : pc + 1 = pc') (k : Sim K w Z pc' L (.long a.toInt64 :: st) M F) : Sim K w Z pc L (.int a :: st) M F := by
  subst hp; exact fun r M' h ls H lo h1 h2 h3 => lv_i2l g.1 g.2.1 hd rfl (k r M' h ls H lo h1 h2 h3)
theorem r_l2i {a : Int64} (g : Good K w Z cc own D) (hd : decode cc pc = .ok (.l2i, 1)) (hp : pc + 1 = pc') (k : Sim K w Z pc' L (.int a.toInt32 :: st) M F) : Sim K w Z pc L (.long a :: st) M F := by
  subst hp; exact fun r M' h ls H lo h1 h2 h3 => lv_l2i g.1 g.2.1 hd rfl (k r M' h ls H lo h1 h2 h3)
theorem r_iconst {n : Int} {v : Int32} (g : Good K w Z cc own D) (hd : decode cc pc = .ok (.iconst n, 1)) (hp : pc + 1 = pc') (hv : Int32.ofInt n = v) (k : Sim K w Z pc' L (.int v :: st) M F) : Sim K w Z pc L st M F := by
  subst hp; exact fun r M' h ls H lo h1 h2 h3 => lv_iconst g.1 g.2.1 hd hv (k r M' h ls H lo h1 h2 h3)
theorem r_bipush {n : Int} {v : Int32} (g : Good K w Z cc own D) (hd : decode cc pc = .ok (.bipush n, 2)) (hp : pc + 2 = pc') (hv : (Int8.ofInt n).toInt32 = v) (k : Sim K w Z pc' L (.int v :: st) M F) : Sim K w Z pc L st M F := by
  subst hp; exact fun r M' h ls H lo h1 h2 h3 => lv_bipush g.1 g.2.1 hd hv (k r M' h ls H lo h1 h2 h3)
theorem r_sipush {n : Int} {v : Int32} (g : Good K w Z cc own D) (hd : decode cc pc = .ok (.sipush n, 3)) (hp : pc + 3 = pc') (hv : (Int16.ofInt n).toInt32 = v) (k : Sim K w Z pc' L (.int v :: st) M F) : Sim K w Z pc L st M F := by
  subst hp; exact fun r M' h ls H lo h1 h2 h3 => lv_sipush g.1 g.2.1 hd hv (k r M' h ls H lo h1 h2 h3)
theorem r_lconst {n : Fin 2} {v : Int64} (g : Good K w Z cc own D) (hd : decode cc pc = .ok (.lconst n, 1)) (hp : pc + 1 = pc') (hv : Int64.ofNat (n : Nat) = v) (k : Sim K w Z pc' L (.long v :: st) M F) : Sim K w Z pc L st M F := by
  subst hp; exact fun r M' h ls H lo h1 h2 h3 => lv_lconst g.1 g.2.1 hd hv (k r M' h ls H lo h1 h2 h3)
theorem r_ldc {i : Nat} {v : Int32} (g : Good K w Z cc own D) (hd : decode cc pc = .ok (.ldc i, 2)) (hp : pc + 2 = pc') (hw : Cond.constant own i v ∈ Ug) (k : Sim K w Z pc' L (.int v :: st) M F) : Sim K w Z pc L st M F := by
  subst hp; exact fun r M' h ls H lo h1 h2 h3 => lv_ldc g.1 g.2.1 g.2.2.2.1 (g.2.2.2.2.1 _ hw) hd (k r M' h ls H lo h1 h2 h3)
theorem r_ldcw {i : Nat} {v : Int32} (g : Good K w Z cc own D) (hd : decode cc pc = .ok (.ldc_w i, 3)) (hp : pc + 3 = pc') (hw : Cond.constant own i v ∈ Ug) (k : Sim K w Z pc' L (.int v :: st) M F) : Sim K w Z pc L st M F := by
  subst hp; exact fun r M' h ls H lo h1 h2 h3 => lv_ldcw g.1 g.2.1 g.2.2.2.1 (g.2.2.2.2.1 _ hw) hd (k r M' h ls H lo h1 h2 h3)
theorem r_ldc2 {i : Nat} {v : Int64} (g : Good K w Z cc own D) (hd : decode cc pc = .ok (.ldc2_w i, 3)) (hp : pc + 3 = pc') (hw : Cond.constantLong own i v ∈ Ug) (k : Sim K w Z pc' L (.long v :: st) M F) : Sim K w Z pc L st M F := by
  subst hp; exact fun r M' h ls H lo h1 h2 h3 => lv_ldc2 g.1 g.2.1 g.2.2.2.1 (g.2.2.2.2.1 _ hw) hd (k r M' h ls H lo h1 h2 h3)
theorem r_dupi {a : Int32} (g : Good K w Z cc own D) (hd : decode cc pc = .ok (.dup, 1)) (hp : pc + 1 = pc') (k : Sim K w Z pc' L (.int a :: .int a :: st) M F) : Sim K w Z pc L (.int a :: st) M F := by
  subst hp; exact fun r M' h ls H lo h1 h2 h3 => lv_dup g.1 g.2.1 hd rfl (k r M' h ls H lo h1 h2 h3)
theorem r_dupa {a : Nat} (g : Good K w Z cc own D) (hd : decode cc pc = .ok (.dup, 1)) (hp : pc + 1 = pc') (k : Sim K w Z pc' L (.ref a :: .ref a :: st) M F) : Sim K w Z pc L (.ref a :: st) M F := by
  subst hp; exact fun r M' h ls H lo h1 h2 h3 => lv_dup g.1 g.2.1 hd rfl (k r M' h ls H lo h1 h2 h3)
theorem r_dup2 {a : Nat} {i : Int32} (g : Good K w Z cc own D) (hd : decode cc pc = .ok (.dup2, 1)) (hp : pc + 1 = pc') (k : Sim K w Z pc' L (.int i :: .ref a :: .int i :: .ref a :: st) M F) : Sim K w Z pc L (.int i :: .ref a :: st) M F := by
  subst hp; exact fun r M' h ls H lo h1 h2 h3 => lv_dup2_11 g.1 g.2.1 hd rfl rfl (k r M' h ls H lo h1 h2 h3)
theorem r_pop {a : Int32} (g : Good K w Z cc own D) (hd : decode cc pc = .ok (.pop, 1)) (hp : pc + 1 = pc') (k : Sim K w Z pc' L st M F) : Sim K w Z pc L (.int a :: st) M F := by
  subst hp; exact fun r M' h ls H lo h1 h2 h3 => lv_pop g.1 g.2.1 hd rfl (k r M' h ls H lo h1 h2 h3)
theorem r_goto {off : Int} {tgt : Nat} (g : Good K w Z cc own D) (hd : decode cc pc = .ok (.goto off, 3)) (ht : (pc : Int) + off = (tgt : Int)) (k : Sim K w Z tgt L st M F) : Sim K w Z pc L st M F :=
  fun r M' h ls H lo h1 h2 h3 => lv_goto g.1 g.2.1 hd ht (k r M' h ls H lo h1 h2 h3)
theorem Lc.at {ls : Array Slot} {nL i : Nat} {L : List Value} {v : Value} (h : Lc ls nL L) (hl : L[i]? = some v) (hv : v ≠ .null) : ls[i]? = some (.val v) := h.2 i v hl hv
theorem r_iload_n {n : Fin 4} {a : Int32} (g : Good K w Z cc own D) (hd : decode cc pc = .ok (.iload_n n, 1)) (hp : pc + 1 = pc') (hl : L[(n : Nat)]? = some (.int a)) (k : Sim K w Z pc' L (.int a :: st) M F) : Sim K w Z pc L st M F := by
  subst hp; exact fun r M' h ls H lo h1 h2 h3 => lv_iload_n g.1 g.2.1 hd rfl (h1.at hl (fun q => by cases q)) (k r M' h ls H lo h1 h2 h3)
theorem r_iload {i : Nat} {a : Int32} (g : Good K w Z cc own D) (hd : decode cc pc = .ok (.iload i, 2)) (hp : pc + 2 = pc') (hl : L[i]? = some (.int a)) (k : Sim K w Z pc' L (.int a :: st) M F) : Sim K w Z pc L st M F := by
  subst hp; exact fun r M' h ls H lo h1 h2 h3 => lv_iload g.1 g.2.1 hd (h1.at hl (fun q => by cases q)) (k r M' h ls H lo h1 h2 h3)
theorem r_lload_n {n : Fin 4} {a : Int64} (g : Good K w Z cc own D) (hd : decode cc pc = .ok (.lload_n n, 1)) (hp : pc + 1 = pc') (hl : L[(n : Nat)]? = some (.long a)) (k : Sim K w Z pc' L (.long a :: st) M F) : Sim K w Z pc L st M F := by
  subst hp; exact fun r M' h ls H lo h1 h2 h3 => lv_lload_n g.1 g.2.1 hd rfl (h1.at hl (fun q => by cases q)) (k r M' h ls H lo h1 h2 h3)
theorem r_lload {i : Nat} {a : Int64} (g : Good K w Z cc own D) (hd : decode cc pc = .ok (.lload i, 2)) (hp : pc + 2 = pc') (hl : L[i]? = some (.long a)) (k : Sim K w Z pc' L (.long a :: st) M F) : Sim K w Z pc L st M F := by
  subst hp; exact fun r M' h ls H lo h1 h2 h3 => lv_lload g.1 g.2.1 hd (h1.at hl (fun q => by cases q)) (k r M' h ls H lo h1 h2 h3)
theorem r_aload_n {n : Fin 4} {a : Nat} (g : Good K w Z cc own D) (hd : decode cc pc = .ok (.aload_n n, 1)) (hp : pc + 1 = pc') (hl : L[(n : Nat)]? = some (.ref a)) (k : Sim K w Z pc' L (.ref a :: st) M F) : Sim K w Z pc L st M F := by
  subst hp; exact fun r M' h ls H lo h1 h2 h3 => lv_aload_n g.1 g.2.1 hd rfl (h1.at hl (fun q => by cases q)) (k r M' h ls H lo h1 h2 h3)
theorem r_aload {i : Nat} {a : Nat} (g : Good K w Z cc own D) (hd : decode cc pc = .ok (.aload i, 2)) (hp : pc + 2 = pc') (hl : L[i]? = some (.ref a)) (k : Sim K w Z pc' L (.ref a :: st) M F) : Sim K w Z pc L st M F := by
  subst hp; exact fun r M' h ls H lo h1 h2 h3 => lv_aload g.1 g.2.1 hd (h1.at hl (fun q => by cases q)) (k r M' h ls H lo h1 h2 h3)
/-- the locals as the kit lists them -/
def cv1 (i : Nat) (o : Option Value) : Option (Nat × Value) := match o with
  | some Value.null => none
  | some v => some (i, v)
  | none => none
def cv (L : List Value) : List (Nat × Value) := (List.range L.length).filterMap fun i => cv1 i L[i]?
theorem cv_mem {L : List Value} {i : Nat} {v : Value} (h : (i, v) ∈ cv L) : L[i]? = some v ∧ v ≠ .null := by
  obtain ⟨j, -, hj⟩ := List.mem_filterMap.mp h
  revert hj
  cases hq : L[j]? with
  | none => intro hj; cases hj
  | some u => cases u <;> intro hj <;> first | (cases hj; done) | (cases hj; exact ⟨hq, fun q => by cases q⟩) | (simp [cv1] at hj)
theorem mem_cv {L : List Value} {i : Nat} {v : Value} (h : L[i]? = some v) (hv : v ≠ .null) : (i, v) ∈ cv L := by
  refine List.mem_filterMap.mpr ⟨i, List.mem_range.mpr (List.getElem?_eq_some_iff.mp h).1, ?_⟩
  rw [h]
  cases v <;> first | rfl | exact (hv rfl).elim
theorem lc_cv {ls : Array Slot} {nL : Nat} {L : List Value} (h : Lc ls nL L) : lv_has ls nL (cv L) := ⟨h.1.1, h.1.2.1, fun q hq => h.2 q.1 q.2 (cv_mem hq).1 (cv_mem hq).2⟩
def nlong (L : List Value) (i : Nat) : Bool := match i with
  | 0 => true
  | j + 1 => match L[j]? with
    | some (.long _) => false
    | some (.double _) => false
    | _ => true
theorem lc_set {ls' : Array Slot} {nL i : Nat} {L : List Value} {v : Value} (hn : nlong L i = true) (h : lv_has ls' nL ((i, v) :: (cv L).filter (fun q => !(q.1 == i) && !(q.1 + 1 == i && q.2.category == 2)))) : Lc ls' nL (L.set i v) := by
  refine ⟨⟨h.1, h.2.1, fun q hq => by cases hq⟩, fun j u hj hu => ?_⟩
  by_cases hji : j = i
  · subst hji
    have hl : j < L.length := by
      have := (List.getElem?_eq_some_iff.mp hj).1
      simpa using this
    rw [List.getElem?_set_self hl] at hj
    cases hj
    exact h.2.2 _ List.mem_cons_self
  · rw [List.getElem?_set_ne (fun q => hji q.symm)] at hj
    refine h.2.2 (j, u) (List.mem_cons_of_mem _ (List.mem_filter.mpr ⟨mem_cv hj hu, ?_⟩))
    have h1 : (j == i) = false := by simpa using hji
    by_cases h2 : j + 1 = i
    · subst h2
      have hn2 : (match L[j]? with
        | some (.long _) => false
        | some (.double _) => false
        | _ => true) = true := hn
      rw [hj] at hn2
      cases u <;> simp_all [Value.category]
    · have h3 : (j + 1 == i) = false := by simpa using h2
      simp only [h1, h3]; rfl
theorem r_istore_n {n : Fin 4} {a : Int32} {L' : List Value} (g : Good K w Z cc own D) (hd : decode cc pc = .ok (.istore_n n, 1)) (hp : pc + 1 = pc') (hn : (n : Nat) < Z.2.2.1) (ho : nlong L (n : Nat) = true) (hl : L.set (n : Nat) (.int a) = L') (k : Sim K w Z pc' L' st M F) : Sim K w Z pc L (.int a :: st) M F := by
  subst hp; subst hl; exact fun r M' h ls H lo h1 h2 h3 => lv_istore_n g.1 g.2.1 hd rfl (lc_cv h1) hn rfl (fun ls' hl' => k r M' h ls' H lo (lc_set ho hl') h2 h3)
theorem r_istore {i : Nat} {a : Int32} {L' : List Value} (g : Good K w Z cc own D) (hd : decode cc pc = .ok (.istore i, 2)) (hp : pc + 2 = pc') (hn : i < Z.2.2.1) (ho : nlong L i = true) (hl : L.set i (.int a) = L') (k : Sim K w Z pc' L' st M F) : Sim K w Z pc L (.int a :: st) M F := by
  subst hp; subst hl; exact fun r M' h ls H lo h1 h2 h3 => lv_istore g.1 g.2.1 hd (lc_cv h1) hn rfl (fun ls' hl' => k r M' h ls' H lo (lc_set ho hl') h2 h3)
theorem r_iinc {i : Nat} {n : Int} {a b : Int32} {L' : List Value} (g : Good K w Z cc own D) (hd : decode cc pc = .ok (.iinc i n, 3)) (hp : pc + 3 = pc') (ha : L[i]? = some (.int a)) (hv : Int32.ofInt n = b) (hn : i < Z.2.2.1) (ho : nlong L i = true) (hl : L.set i (.int (a + b)) = L') (k : Sim K w Z pc' L' st M F) : Sim K w Z pc L st M F := by
  subst hp; subst hl; subst hv
  intro r M' h ls H lo h1 h2 h3
  obtain ⟨j, hj⟩ := List.getElem?_of_mem (mem_cv ha (fun q => by cases q))
  exact lv_iinc g.1 g.2.1 hd (lc_cv h1) hj rfl hn rfl (fun ls' hl' => k r M' h ls' H lo (lc_set ho hl') h2 h3)
/-- fewer listed locals -/
def Lsub : List Value → List Value → Prop
  | [], _ => True
  | v :: vs, u :: us => (v = .null ∨ v = u) ∧ Lsub vs us
  | _ :: _, [] => False
theorem Lsub.at {L' : List Value} : ∀ {L : List Value}, Lsub L' L → ∀ (i : Nat) (v : Value), L'[i]? = some v → v ≠ .null → L[i]? = some v := by
  induction L' with
  | nil => intro L h i v hi; simp at hi
  | cons a l ih =>
    intro L h i v hi hv
    cases L with
    | nil => exact h.elim
    | cons b m =>
      cases i with
      | zero =>
        simp at hi
        subst hi
        rcases h.1 with q | q
        · exact absurd q hv
        · simp [q]
      | succ j =>
        simp at hi ⊢
        exact ih h.2 j v hi hv
theorem r_weak {L' : List Value} (h : Lsub L' L) (k : Sim K w Z pc L' st M F) : Sim K w Z pc L st M F :=
  fun r M' hF ls H lo h1 h2 h3 => k r M' hF ls H lo ⟨h1.1, fun i v hi hv => h1.2 i v (h.at i v hi hv) hv⟩ h2 h3
end Rows
end
section
section Rows2
variable {K : Wk} {w : W0} {Z : Zx} {cc : ByteArray} {own : String} {D pc pc' tgt : Nat} {L st : List Value} {M : Mm} {F A B : Rs} {off : Int} {x y : Int32}
theorem ft {c : Prop} [Decidable c] {A B : Rs} {z : Int32 × Mm} (h : (if c then A else B) = some z) (hc : c) : A = some z := by rwa [if_pos hc] at h
theorem ff {c : Prop} [Decidable c] {A B : Rs} {z : Int32 × Mm} (h : (if c then A else B) = some z) (hc : ¬ c) : B = some z := by rwa [if_neg hc] at h
theorem r_ifeq (g : Good K w Z cc own D) (hd : decode cc pc = .ok (.ifCond .eq off, 3)) (hp : pc + 3 = pc') (ht : (pc : Int) + off = (tgt : Int)) (kt : Sim K w Z tgt L st M A) (kf : Sim K w Z pc' L st M B) : Sim K w Z pc L (.int x :: st) M (if x = 0 then A else B) := by
  subst hp; exact fun r M' h ls H lo h1 h2 h3 => lv_if_eq g.1 g.2.1 hd ht (fun q => kt r M' (ft h q) ls H lo h1 h2 h3) (fun q => kf r M' (ff h q) ls H lo h1 h2 h3)
theorem r_ifne (g : Good K w Z cc own D) (hd : decode cc pc = .ok (.ifCond .ne off, 3)) (hp : pc + 3 = pc') (ht : (pc : Int) + off = (tgt : Int)) (kt : Sim K w Z tgt L st M B) (kf : Sim K w Z pc' L st M A) : Sim K w Z pc L (.int x :: st) M (if x = 0 then A else B) := by
  subst hp; exact fun r M' h ls H lo h1 h2 h3 => lv_if_ne g.1 g.2.1 hd ht (fun q => kt r M' (ff h q) ls H lo h1 h2 h3) (fun q => kf r M' (ft h q) ls H lo h1 h2 h3)
theorem r_iflt (g : Good K w Z cc own D) (hd : decode cc pc = .ok (.ifCond .lt off, 3)) (hp : pc + 3 = pc') (ht : (pc : Int) + off = (tgt : Int)) (kt : Sim K w Z tgt L st M A) (kf : Sim K w Z pc' L st M B) : Sim K w Z pc L (.int x :: st) M (if x < 0 then A else B) := by
  subst hp; exact fun r M' h ls H lo h1 h2 h3 => lv_if_lt g.1 g.2.1 hd ht (fun q => kt r M' (ft h q) ls H lo h1 h2 h3) (fun q => kf r M' (ff h q) ls H lo h1 h2 h3)
theorem r_ifge (g : Good K w Z cc own D) (hd : decode cc pc = .ok (.ifCond .ge off, 3)) (hp : pc + 3 = pc') (ht : (pc : Int) + off = (tgt : Int)) (kt : Sim K w Z tgt L st M B) (kf : Sim K w Z pc' L st M A) : Sim K w Z pc L (.int x :: st) M (if x < 0 then A else B) := by
  subst hp; exact fun r M' h ls H lo h1 h2 h3 => lv_if_ge g.1 g.2.1 hd ht (fun q => kt r M' (ff h (fun z => Int32.not_le.mpr z q)) ls H lo h1 h2 h3) (fun q => kf r M' (ft h (Int32.not_le.mp q)) ls H lo h1 h2 h3)
theorem r_ifgt (g : Good K w Z cc own D) (hd : decode cc pc = .ok (.ifCond .gt off, 3)) (hp : pc + 3 = pc') (ht : (pc : Int) + off = (tgt : Int)) (kt : Sim K w Z tgt L st M A) (kf : Sim K w Z pc' L st M B) : Sim K w Z pc L (.int x :: st) M (if 0 < x then A else B) := by
  subst hp; exact fun r M' h ls H lo h1 h2 h3 => lv_if_gt g.1 g.2.1 hd ht (fun q => kt r M' (ft h q) ls H lo h1 h2 h3) (fun q => kf r M' (ff h q) ls H lo h1 h2 h3)
theorem r_ifle (g : Good K w Z cc own D) (hd : decode cc pc = .ok (.ifCond .le off, 3)) (hp : pc + 3 = pc') (ht : (pc : Int) + off = (tgt : Int)) (kt : Sim K w Z tgt L st M B) (kf : Sim K w Z pc' L st M A) : Sim K w Z pc L (.int x :: st) M (if 0 < x then A else B) := by
  subst hp; exact fun r M' h ls H lo h1 h2 h3 => lv_if_le g.1 g.2.1 hd ht (fun q => kt r M' (ff h (fun z => Int32.not_le.mpr z q)) ls H lo h1 h2 h3) (fun q => kf r M' (ft h (Int32.not_le.mp q)) ls H lo h1 h2 h3)
theorem r_ceq (g : Good K w Z cc own D) (hd : decode cc pc = .ok (.if_icmp .eq off, 3)) (hp : pc + 3 = pc') (ht : (pc : Int) + off = (tgt : Int)) (kt : Sim K w Z tgt L st M A) (kf : Sim K w Z pc' L st M B) : Sim K w Z pc L (.int y :: .int x :: st) M (if x = y then A else B) := by
  subst hp; exact fun r M' h ls H lo h1 h2 h3 => lv_icmp_eq g.1 g.2.1 hd ht (fun q => kt r M' (ft h q) ls H lo h1 h2 h3) (fun q => kf r M' (ff h q) ls H lo h1 h2 h3)
theorem r_cne (g : Good K w Z cc own D) (hd : decode cc pc = .ok (.if_icmp .ne off, 3)) (hp : pc + 3 = pc') (ht : (pc : Int) + off = (tgt : Int)) (kt : Sim K w Z tgt L st M B) (kf : Sim K w Z pc' L st M A) : Sim K w Z pc L (.int y :: .int x :: st) M (if x = y then A else B) := by
  subst hp; exact fun r M' h ls H lo h1 h2 h3 => lv_icmp_ne g.1 g.2.1 hd ht (fun q => kt r M' (ff h q) ls H lo h1 h2 h3) (fun q => kf r M' (ft h q) ls H lo h1 h2 h3)
theorem r_clt (g : Good K w Z cc own D) (hd : decode cc pc = .ok (.if_icmp .lt off, 3)) (hp : pc + 3 = pc') (ht : (pc : Int) + off = (tgt : Int)) (kt : Sim K w Z tgt L st M A) (kf : Sim K w Z pc' L st M B) : Sim K w Z pc L (.int y :: .int x :: st) M (if x < y then A else B) := by
  subst hp; exact fun r M' h ls H lo h1 h2 h3 => lv_icmp_lt g.1 g.2.1 hd ht (fun q => kt r M' (ft h q) ls H lo h1 h2 h3) (fun q => kf r M' (ff h q) ls H lo h1 h2 h3)
theorem r_cge (g : Good K w Z cc own D) (hd : decode cc pc = .ok (.if_icmp .ge off, 3)) (hp : pc + 3 = pc') (ht : (pc : Int) + off = (tgt : Int)) (kt : Sim K w Z tgt L st M B) (kf : Sim K w Z pc' L st M A) : Sim K w Z pc L (.int y :: .int x :: st) M (if x < y then A else B) := by
  subst hp; exact fun r M' h ls H lo h1 h2 h3 => lv_icmp_ge g.1 g.2.1 hd ht (fun q => kt r M' (ff h (fun z => Int32.not_le.mpr z q)) ls H lo h1 h2 h3) (fun q => kf r M' (ft h (Int32.not_le.mp q)) ls H lo h1 h2 h3)
theorem r_cgt (g : Good K w Z cc own D) (hd : decode cc pc = .ok (.if_icmp .gt off, 3)) (hp : pc + 3 = pc') (ht : (pc : Int) + off = (tgt : Int)) (kt : Sim K w Z tgt L st M A) (kf : Sim K w Z pc' L st M B) : Sim K w Z pc L (.int y :: .int x :: st) M (if y < x then A else B) := by
  subst hp; exact fun r M' h ls H lo h1 h2 h3 => lv_icmp_gt g.1 g.2.1 hd ht (fun q => kt r M' (ft h q) ls H lo h1 h2 h3) (fun q => kf r M' (ff h q) ls H lo h1 h2 h3)
theorem r_cle (g : Good K w Z cc own D) (hd : decode cc pc = .ok (.if_icmp .le off, 3)) (hp : pc + 3 = pc') (ht : (pc : Int) + off = (tgt : Int)) (kt : Sim K w Z tgt L st M B) (kf : Sim K w Z pc' L st M A) : Sim K w Z pc L (.int y :: .int x :: st) M (if y < x then A else B) := by
  subst hp; exact fun r M' h ls H lo h1 h2 h3 => lv_icmp_le g.1 g.2.1 hd ht (fun q => kt r M' (ff h (fun z => Int32.not_le.mpr z q)) ls H lo h1 h2 h3) (fun q => kf r M' (ft h (Int32.not_le.mp q)) ls H lo h1 h2 h3)
/-- a switch, one value after the other -/
theorem r_tab {v : Int32} {dflt lo hi : Int} {offs : Array Int} {len : Nat} (g : Good K w Z cc own D) (hd : decode cc pc = .ok (.tableswitch dflt lo hi offs, len)) (h1 : ¬ v.toInt < lo) (h2 : ¬ hi < v.toInt) (ho : offs[(v.toInt - lo).toNat]? = some off) (ht : (pc : Int) + off = (tgt : Int)) (kt : Sim K w Z tgt L st M A) (kf : ¬ x = v → Sim K w Z pc L (.int x :: st) M B) : Sim K w Z pc L (.int x :: st) M (if x = v then A else B) := by
  intro r M' h ls H l h3 h4 h5
  by_cases q : x = v
  · subst q
    exact lv_tableIn g.1 g.2.1 hd h1 h2 ho ht (kt r M' (ft h rfl) ls H l h3 h4 h5)
  · exact kf q r M' (ff h q) ls H l h3 h4 h5
theorem r_tabd {dflt lo hi : Int} {offs : Array Int} {len : Nat} (g : Good K w Z cc own D) (hd : decode cc pc = .ok (.tableswitch dflt lo hi offs, len)) (h : x.toInt < lo ∨ hi < x.toInt) (ht : (pc : Int) + dflt = (tgt : Int)) (k : Sim K w Z tgt L st M A) : Sim K w Z pc L (.int x :: st) M A :=
  fun r M' hF ls H l h3 h4 h5 => lv_tableOut g.1 g.2.1 hd h ht (k r M' hF ls H l h3 h4 h5)
theorem r_iret {v : Int32} (g : Good K w Z cc own D) (hr : Z.2.2.2 = some .int) (hd : decode cc pc = .ok (.ireturn, 1)) : Sim K w Z pc L [.int v] M (some (v, M)) := by
  intro r M' h ls H l h1 h2 h3
  cases h
  exact W.iret g.1 g.2.1 (g.2.2.2.2.2.2.1.trans hr) (fun t ht hW => ⟨by rw [hr]; rfl, by rw [ht]; exact h2, h3.F ht⟩) h3.2.2 hd g.2.2.2.2.2.1
theorem r_zret {v : Int32} (g : Good K w Z cc own D) (hr : Z.2.2.2 = some .boolean) (hd : decode cc pc = .ok (.ireturn, 1)) : Sim K w Z pc L [.int v] M (if bz v then some (v, M) else none) := by
  intro r M' h ls H l h1 h2 h3
  by_cases q : bz v = true
  · have h := ft h q
    cases h
    exact W.zret g.1 g.2.1 (g.2.2.2.2.2.2.1.trans hr) (bz_nar q) (fun t ht hW => ⟨by rw [hr]; rfl, by rw [ht]; exact h2, h3.F ht⟩) h3.2.2 hd g.2.2.2.2.2.1
  · cases ff h q
theorem r_zretc {v : Int32} (g : Good K w Z cc own D) (hr : Z.2.2.2 = some .boolean) (hv : bz v = true) (hd : decode cc pc = .ok (.ireturn, 1)) : Sim K w Z pc L [.int v] M (some (v, M)) := by
  intro r M' h ls H l h1 h2 h3
  cases h
  exact W.zret g.1 g.2.1 (g.2.2.2.2.2.2.1.trans hr) (bz_nar hv) (fun t ht hW => ⟨by rw [hr]; rfl, by rw [ht]; exact h2, h3.F ht⟩) h3.2.2 hd g.2.2.2.2.2.1
theorem r_vret (g : Good K w Z cc own D) (hr : Z.2.2.2 = none) (hd : decode cc pc = .ok (.return_, 1)) : Sim K w Z pc L [] M (some (0, M)) := by
  intro r M' h ls H l h1 h2 h3
  cases h
  exact W.vret g.1 g.2.1 (g.2.2.2.2.2.2.1.trans hr) (fun t ht hW => ⟨by rw [hr]; rfl, by rw [ht]; exact h2, h3.F ht⟩) h3.2.2 hd g.2.2.2.2.2.1
/-- what the tables know of a class -/
def Kf (ci : Nat) (C : String) (T : u_T) (N : Nat) (ty : Nat → FieldType) : Prop := (∀ u ∈ u_ws C T N, u ∈ Ug) ∧ vwCl[ci]? = some (C, T, N) ∧ (∀ k, k < N → parseFieldDescriptor (T k).2.2.1 = some (ty k)) ∧ ∀ a, a < N → ∀ b, b < N → a ≠ b → (T a).2.1 ≠ (T b).2.1
/-- what the tables know of a field where a class's pool names it -/
def Fl (own : String) (idx ci k : Nat) (C : String) (T : u_T) (N : Nat) (ty : Nat → FieldType) (fin : Bool) : Prop := Kf ci C T N ty ∧ k < N ∧ (T k).2.2.2 = fin ∧ (T k).1 = C ∧ Cond.fieldLink own idx C (T k).2.1 (T k).2.2.1 ∈ Ug
section Heap
variable {idx ci j a : Nat} {C : String} {T : u_T} {N : Nat} {ty : Nat → FieldType} {fin : Bool} {fs : List Value} {v : Value}
theorem r_get (g : Good K w Z cc own D) (hd : decode cc pc = .ok (.getfield idx, 3)) (hp : pc + 3 = pc') (fl : Fl own idx ci j C T N ty fin) (ha : a < K.1) (he : K.2.1 w a (M.1 a) (M.2 a) = .inr (ci, fs)) (hv : fs[j]? = some v) (k : Sim K w Z pc' L (v :: st) M F) : Sim K w Z pc L (rf w a :: st) M F := by
  subst hp
  intro r M' h ls H l h1 h2 h3
  exact va_get g.1 g.2.1 g.2.2.2.2.1 fl.1.1 g.2.2.2.1 g.2.2.2.2.2.2.2.1 h2 a (by rw [wsOf_get ha, he]) fl.1.2.1 j fl.2.1 (g.2.2.2.2.1 _ fl.2.2.2.2) (fun q hq => by rw [fl.2.2.2.1] at hq; exact hq) hv hd (k r M' h ls H l h1 h2 h3)
theorem wI_1 {M : Mm} {a i : Nat} {v : Int32} : (wI M a i v).1 a = upd (M.1 a) i v := if_pos rfl
theorem wI_ne {M : Mm} {a i b : Nat} {v : Int32} (h : b ≠ a) : (wI M a i v).1 b = M.1 b := if_neg h
theorem wI_2 {M : Mm} {a i b : Nat} {v : Int32} : (wI M a i v).2 b = M.2 b := rfl
theorem wL_2 {M : Mm} {a i : Nat} {v : Int64} : (wL M a i v).2 a = vp_updL (M.2 a) i v := if_pos rfl
theorem wL_ne {M : Mm} {a i b : Nat} {v : Int64} (h : b ≠ a) : (wL M a i v).2 b = M.2 b := if_neg h
theorem wL_1 {M : Mm} {a i b : Nat} {v : Int64} : (wL M a i v).1 b = M.1 b := rfl
theorem wR_1 {M : Mm} {a : Nat} {f : Nat → Int32} : (wR M a f).1 a = f := if_pos rfl
theorem wR_ne {M : Mm} {a b : Nat} {f : Nat → Int32} (h : b ≠ a) : (wR M a f).1 b = M.1 b := if_neg h
theorem wI_set {M : Mm} {a i : Nat} {x : Int32} {e : va_E} (ha : a < K.1) (he : K.2.1 w a (upd (M.1 a) i x) (M.2 a) = e) : (wsOf K w M).set a (w.2.1 a, e) = wsOf K w (wI M a i x) :=
  wsOf_set ha (by rw [wI_1, wI_2, he]) (fun b hb => wI_ne hb) (fun b _ => wI_2)
theorem wR_set {M : Mm} {a : Nat} {f : Nat → Int32} {e : va_E} (ha : a < K.1) (he : K.2.1 w a f (M.2 a) = e) : (wsOf K w M).set a (w.2.1 a, e) = wsOf K w (wR M a f) :=
  wsOf_set ha (by rw [wR_1]; exact he.symm) (fun b hb => wR_ne hb) (fun b _ => rfl)
theorem wL_set {M : Mm} {a i : Nat} {x : Int64} {e : va_E} (ha : a < K.1) (he : K.2.1 w a (M.1 a) (vp_updL (M.2 a) i x) = e) : (wsOf K w M).set a (w.2.1 a, e) = wsOf K w (wL M a i x) :=
  wsOf_set ha (by rw [wL_1, wL_2, he]) (fun b _ => wL_1) (fun b hb => wL_ne hb)
/-- a number into a field -/
theorem r_put {x : Int32} (g : Good K w Z cc own D) (hd : decode cc pc = .ok (.putfield idx, 3)) (hp : pc + 3 = pc') (fl : Fl own idx ci j C T N ty false) (ht : ty j = .int) (ha : a < K.1) (he : K.2.1 w a (M.1 a) (M.2 a) = .inr (ci, fs)) (hl : j < fs.length) (hs : K.2.1 w a (upd (M.1 a) j x) (M.2 a) = .inr (ci, fs.set j (.int x))) (k : Sim K w Z pc' L st (wI M a j x) F) : Sim K w Z pc L (.int x :: rf w a :: st) M F := by
  subst hp
  intro r M' h ls H l h1 h2 h3
  refine va_put g.1 g.2.1 g.2.2.2.2.1 fl.1.1 ty fl.1.2.2.1 fl.1.2.2.2 g.2.2.2.1 g.2.2.2.2.2.2.2.1 h2 (ap_D g.2.2.2.2.2.2.2.2.1 M) h3 a (by rw [wsOf_get ha, he]) fl.1.2.1 j fl.2.1 (g.2.2.2.2.1 _ fl.2.2.2.2) (fun q hq => by rw [fl.2.2.2.1] at hq; exact hq) fl.2.2.1 (ty := .int) (by rw [fl.1.2.2.1 j fl.2.1, ht]) rfl rfl hl hd (fun H1 l1 hP _ hS => ?_)
  rw [wI_set ha hs] at hP
  exact k r M' h ls H1 l1 h1 hP hS
theorem r_putz {x : Int32} (g : Good K w Z cc own D) (hd : decode cc pc = .ok (.putfield idx, 3)) (hp : pc + 3 = pc') (fl : Fl own idx ci j C T N ty false) (ht : ty j = .boolean) (hz : bz x = true) (ha : a < K.1) (he : K.2.1 w a (M.1 a) (M.2 a) = .inr (ci, fs)) (hl : j < fs.length) (hs : K.2.1 w a (upd (M.1 a) j x) (M.2 a) = .inr (ci, fs.set j (.int x))) (k : Sim K w Z pc' L st (wI M a j x) F) : Sim K w Z pc L (.int x :: rf w a :: st) M F := by
  subst hp
  intro r M' h ls H l h1 h2 h3
  refine va_put g.1 g.2.1 g.2.2.2.2.1 fl.1.1 ty fl.1.2.2.1 fl.1.2.2.2 g.2.2.2.1 g.2.2.2.2.2.2.2.1 h2 (ap_D g.2.2.2.2.2.2.2.2.1 M) h3 a (by rw [wsOf_get ha, he]) fl.1.2.1 j fl.2.1 (g.2.2.2.2.1 _ fl.2.2.2.2) (fun q hq => by rw [fl.2.2.2.1] at hq; exact hq) fl.2.2.1 (ty := .boolean) (by rw [fl.1.2.2.1 j fl.2.1, ht]) (bz_nar hz) (bz_fits hz) hl hd (fun H1 l1 hP _ hS => ?_)
  rw [wI_set ha hs] at hP
  exact k r M' h ls H1 l1 h1 hP hS
theorem r_putzd {x : Int32} (g : Good K w Z cc own D) (hd : decode cc pc = .ok (.putfield idx, 3)) (hp : pc + 3 = pc') (fl : Fl own idx ci j C T N ty false) (ht : ty j = .boolean) (ha : a < K.1) (he : K.2.1 w a (M.1 a) (M.2 a) = .inr (ci, fs)) (hl : j < fs.length) (hs : K.2.1 w a (upd (M.1 a) j x) (M.2 a) = .inr (ci, fs.set j (.int x))) (k : Sim K w Z pc' L st (wI M a j x) F) : Sim K w Z pc L (.int x :: rf w a :: st) M (if bz x then F else none) := by
  intro r M' h ls H l h1 h2 h3
  by_cases q : bz x = true
  · exact r_putz g hd hp fl ht q ha he hl hs k r M' (ft h q) ls H l h1 h2 h3
  · cases ff h q
/-- arrays of ints -/
theorem r_ialdc {n : Nat} {i : Int32} (g : Good K w Z cc own D) (hd : decode cc pc = .ok (.iaload, 1)) (hp : pc + 1 = pc') (ha : a < K.1) (he : K.2.1 w a (M.1 a) (M.2 a) = .inl (w.2.2.1 0, n, .inl (M.1 a))) (hi : inb i n = true) (k : Sim K w Z pc' L (.int (M.1 a (ix i)) :: st) M F) : Sim K w Z pc L (.int i :: rf w a :: st) M F := by
  subst hp
  intro r M' h ls H l h1 h2 h3
  exact va_iald g.1 g.2.1 g.2.2.2.2.2.2.2.1 h2 a 0 (by rw [wsOf_get ha, he]) rfl (inb_in hi) hd (k r M' h ls H l h1 h2 h3)
theorem r_iald {n : Nat} {i : Int32} (g : Good K w Z cc own D) (hd : decode cc pc = .ok (.iaload, 1)) (hp : pc + 1 = pc') (ha : a < K.1) (he : K.2.1 w a (M.1 a) (M.2 a) = .inl (w.2.2.1 0, n, .inl (M.1 a))) (k : Sim K w Z pc' L (.int (M.1 a (ix i)) :: st) M F) : Sim K w Z pc L (.int i :: rf w a :: st) M (if inb i n then F else none) := by
  intro r M' h ls H l h1 h2 h3
  by_cases q : inb i n = true
  · exact r_ialdc g hd hp ha he q k r M' (ft h q) ls H l h1 h2 h3
  · cases ff h q
theorem r_zald {n : Nat} {i : Int32} (g : Good K w Z cc own D) (hd : decode cc pc = .ok (.baload, 1)) (hp : pc + 1 = pc') (ha : a < K.1) (he : K.2.1 w a (M.1 a) (M.2 a) = .inl (w.2.2.1 2, n, .inl (M.1 a))) (k : Sim K w Z pc' L (.int (M.1 a (ix i)) :: st) M F) : Sim K w Z pc L (.int i :: rf w a :: st) M (if inb i n then F else none) := by
  subst hp
  intro r M' h ls H l h1 h2 h3
  by_cases q : inb i n = true
  · exact va_zald g.1 g.2.1 g.2.2.2.2.2.2.2.1 h2 a 2 (by rw [wsOf_get ha, he]) rfl (inb_in q) hd (k r M' (ft h q) ls H l h1 h2 h3)
  · cases ff h q
theorem r_lald {n : Nat} {i : Int32} (g : Good K w Z cc own D) (hd : decode cc pc = .ok (.laload, 1)) (hp : pc + 1 = pc') (ha : a < K.1) (he : K.2.1 w a (M.1 a) (M.2 a) = .inl (w.2.2.1 1, n, .inr (.inl (M.2 a)))) (k : Sim K w Z pc' L (.long (M.2 a (ix i)) :: st) M F) : Sim K w Z pc L (.int i :: rf w a :: st) M (if inb i n then F else none) := by
  subst hp
  intro r M' h ls H l h1 h2 h3
  by_cases q : inb i n = true
  · exact va_lald g.1 g.2.1 g.2.2.2.2.2.2.2.1 h2 a 1 (by rw [wsOf_get ha, he]) rfl (inb_in q) hd (k r M' (ft h q) ls H l h1 h2 h3)
  · cases ff h q
theorem r_iastc {n : Nat} {i x : Int32} (g : Good K w Z cc own D) (hd : decode cc pc = .ok (.iastore, 1)) (hp : pc + 1 = pc') (ha : a < K.1) (he : ∀ m, K.2.1 w a m (M.2 a) = .inl (w.2.2.1 0, n, .inl m)) (hi : inb i n = true) (k : Sim K w Z pc' L st (wI M a (ix i) x) F) : Sim K w Z pc L (.int x :: .int i :: rf w a :: st) M F := by
  subst hp
  intro r M' h ls H l h1 h2 h3
  refine va_iast g.1 g.2.1 g.2.2.2.2.2.2.2.1 h2 (ap_D g.2.2.2.2.2.2.2.2.1 M) h3 a 0 (by rw [wsOf_get ha, he]) rfl (inb_in hi) hd (fun H1 l1 hP _ hS => ?_)
  rw [wI_set ha (he _)] at hP
  exact k r M' h ls H1 l1 h1 hP hS
theorem r_iast {n : Nat} {i x : Int32} (g : Good K w Z cc own D) (hd : decode cc pc = .ok (.iastore, 1)) (hp : pc + 1 = pc') (ha : a < K.1) (he : ∀ m, K.2.1 w a m (M.2 a) = .inl (w.2.2.1 0, n, .inl m)) (k : Sim K w Z pc' L st (wI M a (ix i) x) F) : Sim K w Z pc L (.int x :: .int i :: rf w a :: st) M (if inb i n then F else none) := by
  intro r M' h ls H l h1 h2 h3
  by_cases q : inb i n = true
  · exact r_iastc g hd hp ha he q k r M' (ft h q) ls H l h1 h2 h3
  · cases ff h q
abbrev zn (x : Int32) : Int32 := vp_nar .boolean x
theorem r_zast {n : Nat} {i x : Int32} (g : Good K w Z cc own D) (hd : decode cc pc = .ok (.bastore, 1)) (hp : pc + 1 = pc') (ha : a < K.1) (he : ∀ m, K.2.1 w a m (M.2 a) = .inl (w.2.2.1 2, n, .inl m)) (k : Sim K w Z pc' L st (wI M a (ix i) (zn x)) F) : Sim K w Z pc L (.int x :: .int i :: rf w a :: st) M (if inb i n then F else none) := by
  subst hp
  intro r M' h ls H l h1 h2 h3
  by_cases q : inb i n = true
  · refine va_zast g.1 g.2.1 g.2.2.2.2.2.2.2.1 h2 (ap_D g.2.2.2.2.2.2.2.2.1 M) h3 a 2 (by rw [wsOf_get ha, he]) rfl (inb_in q) hd (fun H1 l1 hP _ hS => ?_)
    rw [wI_set ha (he _)] at hP
    exact k r M' (ft h q) ls H1 l1 h1 hP hS
  · cases ff h q
theorem r_last {n : Nat} {i : Int32} {x : Int64} (g : Good K w Z cc own D) (hd : decode cc pc = .ok (.lastore, 1)) (hp : pc + 1 = pc') (ha : a < K.1) (he : ∀ m, K.2.1 w a (M.1 a) m = .inl (w.2.2.1 1, n, .inr (.inl m))) (k : Sim K w Z pc' L st (wL M a (ix i) x) F) : Sim K w Z pc L (.long x :: .int i :: rf w a :: st) M (if inb i n then F else none) := by
  subst hp
  intro r M' h ls H l h1 h2 h3
  by_cases q : inb i n = true
  · refine va_last g.1 g.2.1 g.2.2.2.2.2.2.2.1 h2 (ap_D g.2.2.2.2.2.2.2.2.1 M) h3 a 1 (by rw [wsOf_get ha, he]) rfl (inb_in q) hd (fun H1 l1 hP _ hS => ?_)
    rw [wL_set ha (he _)] at hP
    exact k r M' (ft h q) ls H1 l1 h1 hP hS
  · cases ff h q
theorem r_aald {n : Nat} {i : Int32} {f : Nat → Nat} (g : Good K w Z cc own D) (hd : decode cc pc = .ok (.aaload, 1)) (hp : pc + 1 = pc') (ha : a < K.1) (he : K.2.1 w a (M.1 a) (M.2 a) = .inl (w.2.2.1 3, n, .inr (.inr (.inr (.inr (fun j => some (w.2.1 (f j)))))))) (k : inb i n = true → Sim K w Z pc' L (rf w (f (ix i)) :: st) M F) : Sim K w Z pc L (.int i :: rf w a :: st) M (if inb i n then F else none) := by
  subst hp
  intro r M' h ls H l h1 h2 h3
  by_cases q : inb i n = true
  · exact va_aldq (f := fun j => some (w.2.1 (f j))) g.1 g.2.1 g.2.2.2.2.2.2.2.1 h2 a 3 (by rw [wsOf_get ha, he]) rfl (inb_in q) hd (k q r M' (ft h q) ls H l h1 h2 h3)
  · cases ff h q
theorem r_alen {n : Nat} {t : Nat} {v : Int32} {c : ClassId} {e : (Nat → Int32) ⊕ (Nat → Int64) ⊕ (Nat → UInt32) ⊕ (Nat → UInt64) ⊕ (Nat → Option Nat)} {q : FieldType} (g : Good K w Z cc own D) (hd : decode cc pc = .ok (.arraylength, 1)) (hp : pc + 1 = pc') (ha : a < K.1) (he : K.2.1 w a (M.1 a) (M.2 a) = .inl (c, n, e)) (ht : (tysOf w)[t]? = some (c, q)) (hv : Int32.ofNat n = v) (k : Sim K w Z pc' L (.int v :: st) M F) : Sim K w Z pc L (rf w a :: st) M F := by
  subst hp
  intro r M' h ls H l h1 h2 h3
  exact va_alen g.1 g.2.1 g.2.2.2.2.2.2.2.1 h2 a t (by rw [wsOf_get ha, he]) ht hv hd (k r M' h ls H l h1 h2 h3)
end Heap
/-- static tables -/
theorem r_gets {idx : Nat} {nm : String} {v : Value} (g : Good K w Z cc own D) (hd : decode cc pc = .ok (.getstatic idx, 3)) (hp : pc + 3 = pc') (hw : Cond.fieldLink own idx "FerryPlans" nm "[I" ∈ Ug) (hZ : va_Z "FerryPlans" nm "[I" v (AV K w) Z.1.2.2.2.2 Z.1.2.2.2.2.heap) (k : Sim K w Z pc' L (v :: st) M F) : Sim K w Z pc L st M F := by
  subst hp
  intro r M' h ls H l h1 h2 h3
  exact va_gets g.1 g.2.1 hZ h3 g.2.2.2.1 (g.2.2.2.2.1 _ hw) (fun _ q => q) hd (k r M' h ls H l h1 h2 h3)
theorem r_tald {t n : Nat} {f : Nat → Int32} {i : Int32} (g : Good K w Z cc own D) (hd : decode cc pc = .ok (.iaload, 1)) (hp : pc + 1 = pc') (hT : va_T .int t n (fun j => .int (f j)) (AV K w) Z.1.2.2.2.2 Z.1.2.2.2.2.heap) (k : Sim K w Z pc' L (.int (f (ix i)) :: st) M F) : Sim K w Z pc L (.int i :: .ref t :: st) M (if inb i n then F else none) := by
  subst hp
  intro r M' h ls H l h1 h2 h3
  by_cases q : inb i n = true
  · exact va_ti g.1 g.2.1 hT h3 (inb_in q) rfl hd (k r M' (ft h q) ls H l h1 h2 h3)
  · cases ff h q
theorem r_tlen {t n : Nat} {f : Nat → Int32} {v : Int32} (g : Good K w Z cc own D) (hd : decode cc pc = .ok (.arraylength, 1)) (hp : pc + 1 = pc') (hT : va_T .int t n (fun j => .int (f j)) (AV K w) Z.1.2.2.2.2 Z.1.2.2.2.2.heap) (hv : Int32.ofNat n = v) (k : Sim K w Z pc' L (.int v :: st) M F) : Sim K w Z pc L (.ref t :: st) M F := by
  subst hp
  intro r M' h ls H l h1 h2 h3
  exact va_tlen g.1 g.2.1 hT h3 hv hd (k r M' h ls H l h1 h2 h3)
/-- the JDK's own -/
theorem r_max {idx : Nat} {a b : Int32} (g : Good K w Z cc own (D + 1)) (hd : decode cc pc = .ok (.invokestatic idx, 3)) (hp : pc + 3 = pc') (hw : Cond.methodLink own idx Lib.Math.max.name ∈ Ug) (hs : Cond.static Lib.Math.max.name ∈ Ug) (hi : Cond.initialized "java/lang/Math" ∈ Ug) (hc : Cond.code Lib.Math.max.name Lib.Math.max.code 2 (some .int) ∈ Ug) (hcat : (st.map fun v => v.category).sum ≤ 8) (k : Sim K w Z pc' L (.int (if a < b then b else a) :: st) M F) : Sim K w Z pc L (.int b :: .int a :: st) M F := by
  subst hp
  intro r M' h ls H l h1 h2 h3
  have hR := g.2.2.2.2.2.2.2.2.2.2
  exact va_mmax g.1 g.2.1 (g.2.2.1.trans h1.1.1.symm) g.2.2.2.1 (g.2.2.2.2.1 _ hw) (g.2.2.2.2.1 _ hs) (g.2.2.2.2.1 _ hi) (g.2.2.2.2.1 _ hc) (by rw [hR]; show 1 ≤ D + 1; omega) (by rw [hR]; show _ ≤ 64 * (D + 1); omega) (Nat.zero_le _) (Nat.zero_le _) hd (k r M' h ls H l h1 h2 h3)
theorem r_min {idx : Nat} {a b : Int32} (g : Good K w Z cc own (D + 1)) (hd : decode cc pc = .ok (.invokestatic idx, 3)) (hp : pc + 3 = pc') (hw : Cond.methodLink own idx Lib.Math.min.name ∈ Ug) (hs : Cond.static Lib.Math.min.name ∈ Ug) (hi : Cond.initialized "java/lang/Math" ∈ Ug) (hc : Cond.code Lib.Math.min.name Lib.Math.min.code 2 (some .int) ∈ Ug) (hcat : (st.map fun v => v.category).sum ≤ 8) (k : Sim K w Z pc' L (.int (if b < a then b else a) :: st) M F) : Sim K w Z pc L (.int b :: .int a :: st) M F := by
  subst hp
  intro r M' h ls H l h1 h2 h3
  have hR := g.2.2.2.2.2.2.2.2.2.2
  exact va_mmin g.1 g.2.1 (g.2.2.1.trans h1.1.1.symm) g.2.2.2.1 (g.2.2.2.2.1 _ hw) (g.2.2.2.2.1 _ hs) (g.2.2.2.2.1 _ hi) (g.2.2.2.2.1 _ hc) (by rw [hR]; show 1 ≤ D + 1; omega) (by rw [hR]; show _ ≤ 64 * (D + 1); omega) (Nat.zero_le _) (Nat.zero_le _) hd (k r M' h ls H l h1 h2 h3)
/-- the whole of an int array over another of the same length -/
theorem r_copy {idx a b n : Nat} {v : Int32} (g : Good K w Z cc own (D + 1)) (hd : decode cc pc = .ok (.invokestatic idx, 3)) (hp : pc + 3 = pc') (hw : Cond.methodLink own idx arraycopyName ∈ Ug) (hn : Cond.native arraycopyName ∈ Ug) (hs : Cond.static arraycopyName ∈ Ug) (hi : Cond.initialized "java/lang/System" ∈ Ug) (ha : a < K.1) (hb : b < K.1) (hea : K.2.1 w a (M.1 a) (M.2 a) = .inl (w.2.2.1 0, n, .inl (M.1 a))) (heb : ∀ m, K.2.1 w b m (M.2 b) = .inl (w.2.2.1 0, n, .inl m)) (hv : v.toInt = (n : Int)) (hcat : (st.map fun v => v.category).sum ≤ 8) (k : Sim K w Z pc' L st (wR M b (va_cpy (M.1 a) (M.1 b) 0 0 n)) F) : Sim K w Z pc L (.int v :: .int 0 :: rf w b :: .int 0 :: rf w a :: st) M F := by
  subst hp
  intro r M' h ls H l h1 h2 h3
  have hR := g.2.2.2.2.2.2.2.2.2.2
  have hvn : v.toNatClampNeg = n := by
    show v.toInt.toNat = n
    omega
  have hnw : nativeFrameWords "java/lang/System" "arraycopy" 5 ≤ 40 := by decide +kernel
  have q1 : ¬ (0 : Int32) < 0 := by decide
  have q3 : ¬ v < 0 := fun q => by
    have q4 := Int32.lt_iff_toInt_lt.mp q
    have q5 : (0 : Int32).toInt = 0 := rfl
    omega
  have q6 : (0 : Int32).toNatClampNeg + v.toNatClampNeg ≤ n := by rw [hvn]; show 0 + n ≤ n; omega
  have q7 : 1 ≤ Z.1.2.2.2.1.frames := by rw [hR]; show 1 ≤ D + 1; omega
  have q8 : (st.map fun v => v.category).sum + (nativeFrameWords "java/lang/System" "arraycopy" 5 + 11) ≤ Z.1.2.2.2.1.locals := by rw [hR]; show _ ≤ 64 * (D + 1); omega
  refine va_copyi (sp := 0) (dp := 0) (n := v) (n0 := n) (n1 := n) (f := M.1 a) (g := M.1 b) (c0 := w.2.2.1 0) (c1 := w.2.2.1 0) (a0 := w.2.1 a) (a := w.2.1 b) (R := Z.1.2.2.2.1) g.1 g.2.1 (g.2.2.1.trans h1.1.1.symm) g.2.2.2.1 (g.2.2.2.2.1 _ hw) (g.2.2.2.2.1 _ hn) (g.2.2.2.2.1 _ hs) (g.2.2.2.2.1 _ hi) g.2.2.2.2.2.2.2.1 h2 (ap_D g.2.2.2.2.2.2.2.2.1 M) h3 a b 0 0 (ty := .int) (by rw [wsOf_get ha, hea]) (by rw [wsOf_get hb, heb]) rfl rfl rfl q1 q1 q3 q6 q6 (fun _ _ => rfl) q7 q8 hd (fun H1 l1 hP _ hS => ?_)
  rw [hvn] at hP
  rw [show (0 : Int32).toNatClampNeg = 0 from rfl] at hP
  rw [wR_set hb (heb _)] at hP
  exact k r M' h ls H1 l1 h1 hP hS
end Rows2
end
section
/-- the locals of a method's entry, by place -/
def lvp0 : List Value → List Value
  | [] => []
  | v :: vs => if v.category = 2 then v :: .null :: lvp0 vs else v :: lvp0 vs
def lvp (av : List Value) (nL : Nat) : List Value := lvp0 av ++ List.replicate (nL - (lvp0 av).length) .null
theorem lvp0_mem {v : Value} (hv : v ≠ .null) : ∀ (av : List Value) (i k : Nat), (lvp0 av)[i]? = some v → (k + i, v) ∈ lv_args k av := by
  intro av
  induction av with
  | nil => intro i k h; simp [lvp0] at h
  | cons u us ih =>
    intro i k h
    unfold lvp0 at h
    unfold lv_args
    by_cases hc : u.category = 2
    · rw [if_pos hc] at h
      rw [if_pos hc]
      match i, h with
      | 0, h => simp at h; subst h; exact List.mem_cons_self
      | 1, h => simp at h; exact absurd h.symm hv
      | j + 2, h =>
        simp at h
        have := ih j (k + 2) h
        rw [show k + 2 + j = k + (j + 2) by omega] at this
        exact List.mem_cons_of_mem _ this
    · rw [if_neg hc] at h
      rw [if_neg hc]
      match i, h with
      | 0, h => simp at h; subst h; exact List.mem_cons_self
      | j + 1, h =>
        simp at h
        have := ih j (k + 1) h
        rw [show k + 1 + j = k + (j + 1) by omega] at this
        exact List.mem_cons_of_mem _ this
theorem lvp_mem {av : List Value} {nL i : Nat} {v : Value} (h : (lvp av nL)[i]? = some v) (hv : v ≠ .null) : (i, v) ∈ lv_args 0 av := by
  unfold lvp at h
  by_cases hl : i < (lvp0 av).length
  · rw [List.getElem?_append_left hl] at h
    have := lvp0_mem hv av i 0 h
    rwa [Nat.zero_add] at this
  · rw [List.getElem?_append_right (Nat.not_lt.mp hl)] at h
    have h2 := List.mem_of_getElem? h
    exact absurd (List.eq_of_mem_replicate h2) hv
/-- a contract out of a walk of the body -/
theorem ct_of {l : Launch} {K : Wk} {w : W0} {d : Nat} {y : MethodName} {cc : ByteArray} {nL : Nat} {ret : Option FieldType} {av : List Value} {M : Mm} {F : Rs} (L0 : List Value) (hy : plainName y.cls = true) (hlen : (lg_sl av).length ≤ nL) (hL0 : lvp av nL = L0)
    (h : ∀ Z : Zx, Z.1.2.1 = l → Z.2.2.1 = nL → Z.2.2.2 = ret → Good K w Z cc y.cls d → Sim K w Z 0 L0 [] M F) : Ct l K w d y cc nL ret av M F := by
  intro r M' hF
  refine Met.ofW (cc := cc) (maxL := nL) (ret := ret) hy rfl ?_
  intro p e s m args below meth c s₁ B hml hv
  obtain ⟨rfl, hP, hK, hA, hE⟩ := hv
  have hts := atoms_spec (ws := Cond.code y cc nL ret :: Ug) B.pre
  have hl := lv_entry av (n := nL) hlen
  rw [lg_entry_eq]
  have g : Good K w ((p, l, e, rmd d, s), (m, av.toArray, below, meth, c), nL, ret) cc y.cls d := ⟨B.exec, B.bytes, hml, findClass_of_methodNamed B.named, fun u hu => hts u (List.mem_cons_of_mem _ hu), B.notSynchronized, B.returns, hK, hA, hE, rfl⟩
  have k := h ((p, l, e, rmd d, s), (m, av.toArray, below, meth, c), nL, ret) rfl rfl rfl g r M' hF _ s.heap [] (show Lc _ nL L0 from ⟨⟨hl.1, hl.2.1, fun q hq => by cases hq⟩, fun i v hi hv => hl.2.2 (i, v) (lvp_mem (by rw [hL0]; exact hi) hv)⟩) hP va_S.rf
  exact k
/-- what the tables know of a method -/
def Mw (y : MethodName) (bytes : ByteArray) (maxL : Nat) (ret : Option FieldType) (n : Nat) : Prop := Cond.code y bytes maxL ret ∈ Ug ∧ Cond.initialized y.cls ∈ Ug ∧ (y.cls ≠ "java/lang/invoke/MethodHandle" ∧ y.cls ≠ "java/lang/invoke/VarHandle" ∧ (parseMethodDescriptor y.desc).map (fun d => d.parameters.length) = some n) ∧ maxL ≤ 40
def Mv (y : MethodName) : Prop := Cond.instanceMethod y ∈ Ug ∧ Cond.selects y.cls y y ∈ Ug
section Calls
variable {K : Wk} {w : W0} {Z : Zx} {cc : ByteArray} {own : String} {D pc pc' : Nat} {L st : List Value} {M : Mm} {y : MethodName} {bytes : ByteArray} {maxL n idx d a : Nat} {ret : Option FieldType} {As rest : List Value} {Fc : Rs} {G : Int32 → Mm → Rs}
theorem cb_of (g : Good K w Z cc own D) (hw : Cond.methodLink own idx y ∈ Ug) (mw : Mw y bytes maxL ret n) (hD : d + 1 ≤ D) : CallB Z.1.2.2.2.1 Z.1.2.2.2.2 Z.2.1.2.1 own idx y bytes maxL ret (Cond.code y bytes maxL ret :: Ug) (rmd d) 0 0 n := by
  have ht := g.2.2.2.2.1
  refine callB_of (Ts := Ug) (ws' := Ug) n ht (fun u hu => ?_) rfl rfl rfl (ht _ mw.2.1) (ht _ hw) mw.2.2.1 ?_
  · rcases List.mem_cons.mp hu with rfl | hu
    · exact Ug_good _ mw.1
    · exact Ug_good _ hu
  · rw [g.2.2.2.2.2.2.2.2.2.2]
    have := mw.2.2.2
    exact ⟨show d + 1 ≤ D from hD, show 8 + (maxL + 11) + 64 * d ≤ 64 * D by omega⟩
theorem pre_of {H : Heap} {l : List Loc} {av : List Value} (g : Good K w Z cc own D) (h2 : va_P w.1 vwCl (wsOf K w M) H) (h3 : va_S (AV K w) Z.1.2.2.2.2.heap H l) : ∀ U : State, U.heap = H → Z.1.2.2.2.2.WarmedH U.vm → va_Pc av (PreM K w M) av.toArray U := by
  intro U hU hW
  refine ⟨rfl, by rw [hU]; exact h2, va_K.moved hW.alike g.2.2.2.2.2.2.2.1, g.2.2.2.2.2.2.2.2.1, fun q => ?_⟩
  rw [hU]
  exact ((g.2.2.2.2.2.2.2.2.2.1 q).warm hW).kept (fun a h1 h2 => h3.2.1 a h1 h2)
/-- behind a call -/
theorem q_run {H : Heap} {l : List Loc} {ls : Array Slot} {r r' : Int32} {M1 M' : Mm} {vd : Bool} {a : Array Value} (h3 : va_S (AV K w) Z.1.2.2.2.2.heap H l)
    (hr : va_Run Z.1.1 Z.1.2.1 Z.1.2.2.1 Z.1.2.2.2.1 Z.1.2.2.2.2 Z.2.1.1 Z.2.1.2.1 Z.2.1.2.2.1 Z.2.1.2.2.2.1 Z.2.1.2.2.2.2 H l 0 0 0 0 (F0 Z.2.1.1 pc ls st) rest (Qof K w vd r M1 a) (AV K w))
    (kk : ∀ (H1 : Heap) (l1 : List Loc), va_P w.1 vwCl (wsOf K w M1) H1 → va_S (AV K w) Z.1.2.2.2.2.heap H1 l1 → WZ Z H1 l1 (QZ K w Z r' M') (F0 Z.2.1.1 (pc + 3) ls ((if vd then none else some (Value.int r)).toList ++ rest))) : WZ Z H l (QZ K w Z r' M') (F0 Z.2.1.1 pc ls st) := by
  intro T hT X
  obtain ⟨v, st₀, t, T', L', h0, X', hL, e1, e2, ⟨hv, hP1, hz, hk⟩, stp⟩ := hr T hT X
  rw [h0] at hz hk
  have hv2 : v = (if vd then none else some (Value.int r)) := by
    injection hv
  obtain ⟨t2, a1, b1⟩ := kk T'.heap (l ++ L') (by rw [e1]; exact hP1)
    ⟨Nat.le_trans h3.1 (by rw [e1]; exact hz), fun q h1 h2 => by rw [e1, hk q (Nat.lt_of_lt_of_le h1 h3.1) h2]; exact h3.2.1 q h1 h2, fun q hq => by
      rcases List.mem_append.mp hq with h | h
      · exact h3.2.2 q h
      · exact hL q h⟩ T' rfl X'
  rw [← hv2] at a1
  exact ⟨t2, stp t2 a1, b1⟩
theorem bd_some {z : Int32 × Mm} (h : bd Fc G = some z) : ∃ r M1, Fc = some (r, M1) ∧ G r M1 = some z := by
  unfold bd at h
  cases hF : Fc with
  | none => rw [hF] at h; cases h
  | some u => obtain ⟨r, m⟩ := u; rw [hF] at h; exact ⟨r, m, rfl, h⟩
theorem r_callV {ci N : Nat} {T : u_T} {fs : List Value} (g : Good K w Z cc own D) (hd : decode cc pc = .ok (.invokevirtual idx, 3)) (hp : pc + 3 = pc') (hw : Cond.methodLink own idx y ∈ Ug) (mw : Mw y bytes maxL ret n) (mv : Mv y) (hD : d + 1 ≤ D) (hC : Ct Z.1.2.1 K w d y bytes maxL ret (rf w a :: As) M Fc) (hn : As.length = n) (ha : a < K.1) (he : K.2.1 w a (M.1 a) (M.2 a) = .inr (ci, fs)) (hc : vwCl[ci]? = some (y.cls, T, N)) (hst : st = As.reverse ++ rf w a :: rest) (hcat : (rest.map fun v => v.category).sum ≤ 8)
    (k : ∀ r M1, Sim K w Z pc' L ((if ret.isNone then none else some (Value.int r)).toList ++ rest) M1 (G r M1)) : Sim K w Z pc L st M (bd Fc G) := by
  subst hp
  intro r' M' hF ls H l h1 h2 h3
  obtain ⟨r, M1, hFc, hG⟩ := bd_some hF
  refine q_run h3 (va_runV (As := As) (rest := rest) (b := w.2.1 a) (C := y.cls) ⟨g.1, g.2.1, g.2.2.1, g.2.2.2.1, g.2.2.2.2.1⟩ (hC r M1 hFc) ⟨cb_of g hw mw hD, g.2.2.2.2.1 _ mv.1, g.2.2.2.2.1 _ mv.2⟩ ⟨blindM, va_recv g.2.2.2.2.2.2.2.1 h2 (q := (y.cls, T, N)) hc (by rw [wsOf_get ha, he]), pre_of g h2 h3⟩ rfl hn h1.1.1 hst (lv_room hcat) hd ⟨Nat.zero_le _, Nat.zero_le _⟩) (fun H1 l1 hP hS => k r M1 r' M' hG ls H1 l1 h1 hP hS)
theorem r_callS (g : Good K w Z cc own D) (hd : decode cc pc = .ok (.invokestatic idx, 3)) (hp : pc + 3 = pc') (hw : Cond.methodLink own idx y ∈ Ug) (mw : Mw y bytes maxL ret n) (ms : Cond.static y ∈ Ug) (hD : d + 1 ≤ D) (hC : Ct Z.1.2.1 K w d y bytes maxL ret As M Fc) (hn : As.length = n) (hst : st = As.reverse ++ rest) (hcat : (rest.map fun v => v.category).sum ≤ 8)
    (k : ∀ r M1, Sim K w Z pc' L ((if ret.isNone then none else some (Value.int r)).toList ++ rest) M1 (G r M1)) : Sim K w Z pc L st M (bd Fc G) := by
  subst hp
  intro r' M' hF ls H l h1 h2 h3
  obtain ⟨r, M1, hFc, hG⟩ := bd_some hF
  refine q_run h3 (va_runS (As := As) (rest := rest) ⟨g.1, g.2.1, g.2.2.1, g.2.2.2.1, g.2.2.2.2.1⟩ (hC r M1 hFc) ⟨cb_of g hw mw hD, g.2.2.2.2.1 _ ms⟩ ⟨blindM, pre_of g h2 h3⟩ rfl hn h1.1.1 hst (lv_room hcat) hd ⟨Nat.zero_le _, Nat.zero_le _⟩) (fun H1 l1 hP hS => k r M1 r' M' hG ls H1 l1 h1 hP hS)
/-- a private static method of a nest mate -/
theorem r_callN {host : String} (g : Good K w Z cc own D) (hd : decode cc pc = .ok (.invokestatic idx, 3)) (hp : pc + 3 = pc') (hw : va_Nw (.methodLinkNest own idx y host) Z.1.2.2.2.2) (mw : Mw y bytes maxL ret n) (ms : Cond.static y ∈ Ug) (hD : d + 1 ≤ D) (hC : Ct Z.1.2.1 K w d y bytes maxL ret As M Fc) (hn : As.length = n) (hst : st = As.reverse ++ rest) (hcat : (rest.map fun v => v.category).sum ≤ 8)
    (k : ∀ r M1, Sim K w Z pc' L ((if ret.isNone then none else some (Value.int r)).toList ++ rest) M1 (G r M1)) : Sim K w Z pc L st M (bd Fc G) := by
  subst hp
  intro r' M' hF ls H l h1 h2 h3
  obtain ⟨r, M1, hFc, hG⟩ := bd_some hF
  have ht := g.2.2.2.2.1
  have cn : va_CN Z.1.2.2.2.1 Z.1.2.2.2.2 Z.2.1.2.1 own idx y host bytes maxL ret (Cond.code y bytes maxL ret :: Ug) (rmd d) 0 0 n := by
    refine va_cnB (Ts := Ug) (ws' := Ug) n ht (fun u hu => ?_) rfl rfl rfl hw (ht _ mw.2.1) mw.2.2.1 ?_
    · rcases List.mem_cons.mp hu with rfl | hu
      · exact Ug_good _ mw.1
      · exact Ug_good _ hu
    · rw [g.2.2.2.2.2.2.2.2.2.2]
      have := mw.2.2.2
      exact ⟨show d + 1 ≤ D from hD, show 8 + (maxL + 11) + 64 * d ≤ 64 * D by omega⟩
  refine q_run h3 (va_runSN (As := As) (rest := rest) ⟨g.1, g.2.1, g.2.2.1, g.2.2.2.1, g.2.2.2.2.1⟩ (hC r M1 hFc) ⟨cn, ht _ ms, trivial⟩ ⟨blindM, pre_of g h2 h3⟩ rfl hn h1.1.1 hst (lv_room hcat) hd ⟨Nat.zero_le _, Nat.zero_le _⟩) (fun H1 l1 hP hS => k r M1 r' M' hG ls H1 l1 h1 hP hS)
end Calls
end
