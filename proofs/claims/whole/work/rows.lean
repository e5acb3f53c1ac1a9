section
-- ===== PART A: goes FIRST, ahead of the names: the tables' words, and 'selects' of the private methods out of them =====
/-- a private method of a class that the tables say can be made, by its rows of tables_1 -/
def lw_okq (q : MethodName × Nat) : Prop := (q.1.cls ≠ "java/lang/invoke/MethodHandle" ∧ q.1.cls ≠ "java/lang/invoke/VarHandle") ∧ Cond.instantiable q.1.cls q.2 ∈ tables_1 ∧ Cond.privateMethod q.1 ∈ tables_1 ∧ Cond.instanceMethod q.1 ∈ tables_1
theorem lw_p0 : lw_okq (⟨"RodBeam$Section", "findEdges", "()V"⟩, 18) := ⟨⟨by decide +kernel, by decide +kernel⟩, List.mem_of_getElem? (i := 290) (by decide +kernel), List.mem_of_getElem? (i := 300) (by decide +kernel), List.mem_of_getElem? (i := 301) (by decide +kernel)⟩
theorem lw_p1 : lw_okq (⟨"RodBeam$Section", "isEdge", "(I)Z"⟩, 18) := ⟨⟨by decide +kernel, by decide +kernel⟩, List.mem_of_getElem? (i := 290) (by decide +kernel), List.mem_of_getElem? (i := 308) (by decide +kernel), List.mem_of_getElem? (i := 309) (by decide +kernel)⟩
theorem lw_p2 : lw_okq (⟨"RodBeam$Section", "placeRods", "(II)V"⟩, 18) := ⟨⟨by decide +kernel, by decide +kernel⟩, List.mem_of_getElem? (i := 290) (by decide +kernel), List.mem_of_getElem? (i := 316) (by decide +kernel), List.mem_of_getElem? (i := 317) (by decide +kernel)⟩
theorem lw_p3 : lw_okq (⟨"RodBeam", "isSection", "(I)Z"⟩, 8) := ⟨⟨by decide +kernel, by decide +kernel⟩, List.mem_of_getElem? (i := 18) (by decide +kernel), List.mem_of_getElem? (i := 435) (by decide +kernel), List.mem_of_getElem? (i := 436) (by decide +kernel)⟩
theorem lw_p4 : lw_okq (⟨"RodBeam", "deny", "(I)Z"⟩, 8) := ⟨⟨by decide +kernel, by decide +kernel⟩, List.mem_of_getElem? (i := 18) (by decide +kernel), List.mem_of_getElem? (i := 442) (by decide +kernel), List.mem_of_getElem? (i := 443) (by decide +kernel)⟩
theorem lw_p5 : lw_okq (⟨"RodBeam", "allow", "()Z"⟩, 8) := ⟨⟨by decide +kernel, by decide +kernel⟩, List.mem_of_getElem? (i := 18) (by decide +kernel), List.mem_of_getElem? (i := 447) (by decide +kernel), List.mem_of_getElem? (i := 448) (by decide +kernel)⟩
theorem lw_p6 : lw_okq (⟨"RodBeam", "refuse", "(I)I"⟩, 8) := ⟨⟨by decide +kernel, by decide +kernel⟩, List.mem_of_getElem? (i := 18) (by decide +kernel), List.mem_of_getElem? (i := 455) (by decide +kernel), List.mem_of_getElem? (i := 456) (by decide +kernel)⟩
theorem lw_p7 : lw_okq (⟨"RodBeam", "give", "(I)I"⟩, 8) := ⟨⟨by decide +kernel, by decide +kernel⟩, List.mem_of_getElem? (i := 18) (by decide +kernel), List.mem_of_getElem? (i := 463) (by decide +kernel), List.mem_of_getElem? (i := 464) (by decide +kernel)⟩
theorem lw_p8 : lw_okq (⟨"RodBeam", "isRod", "(II)Z"⟩, 8) := ⟨⟨by decide +kernel, by decide +kernel⟩, List.mem_of_getElem? (i := 18) (by decide +kernel), List.mem_of_getElem? (i := 479) (by decide +kernel), List.mem_of_getElem? (i := 480) (by decide +kernel)⟩
theorem lw_p9 : lw_okq (⟨"RodBeam", "walkTo", "(IIZ)I"⟩, 8) := ⟨⟨by decide +kernel, by decide +kernel⟩, List.mem_of_getElem? (i := 18) (by decide +kernel), List.mem_of_getElem? (i := 505) (by decide +kernel), List.mem_of_getElem? (i := 506) (by decide +kernel)⟩
theorem lw_p10 : lw_okq (⟨"RodBeam", "giveShare", "(LRodBeam$Share;)I"⟩, 8) := ⟨⟨by decide +kernel, by decide +kernel⟩, List.mem_of_getElem? (i := 18) (by decide +kernel), List.mem_of_getElem? (i := 539) (by decide +kernel), List.mem_of_getElem? (i := 540) (by decide +kernel)⟩
theorem lw_p11 : lw_okq (⟨"RodBeam$Text", "write", "(C)V"⟩, 3) := ⟨⟨by decide +kernel, by decide +kernel⟩, List.mem_of_getElem? (i := 26) (by decide +kernel), List.mem_of_getElem? (i := 571) (by decide +kernel), List.mem_of_getElem? (i := 572) (by decide +kernel)⟩
theorem lw_p12 : lw_okq (⟨"RodBeam$Text", "writeWhole", "(LRodBeam$Whole;)V"⟩, 3) := ⟨⟨by decide +kernel, by decide +kernel⟩, List.mem_of_getElem? (i := 26) (by decide +kernel), List.mem_of_getElem? (i := 575) (by decide +kernel), List.mem_of_getElem? (i := 576) (by decide +kernel)⟩
theorem lw_p13 : lw_okq (⟨"RodBeam", "bears", "(LRodBeam$Section;II)Z"⟩, 8) := ⟨⟨by decide +kernel, by decide +kernel⟩, List.mem_of_getElem? (i := 18) (by decide +kernel), List.mem_of_getElem? (i := 590) (by decide +kernel), List.mem_of_getElem? (i := 591) (by decide +kernel)⟩
theorem lw_p14 : lw_okq (⟨"RodBeam", "forgetBests", "()V"⟩, 8) := ⟨⟨by decide +kernel, by decide +kernel⟩, List.mem_of_getElem? (i := 18) (by decide +kernel), List.mem_of_getElem? (i := 604) (by decide +kernel), List.mem_of_getElem? (i := 605) (by decide +kernel)⟩
theorem lw_p15 : lw_okq (⟨"RodBeam$Chooser", "listAsks", "(LRodBeam$Section;LRodBeam$Pairs;)V"⟩, 8) := ⟨⟨by decide +kernel, by decide +kernel⟩, List.mem_of_getElem? (i := 258) (by decide +kernel), List.mem_of_getElem? (i := 637) (by decide +kernel), List.mem_of_getElem? (i := 638) (by decide +kernel)⟩
def lw_privs_1 : List (MethodName × Nat) := [(⟨"RodBeam$Section", "findEdges", "()V"⟩, 18), (⟨"RodBeam$Section", "isEdge", "(I)Z"⟩, 18), (⟨"RodBeam$Section", "placeRods", "(II)V"⟩, 18), (⟨"RodBeam", "isSection", "(I)Z"⟩, 8), (⟨"RodBeam", "deny", "(I)Z"⟩, 8), (⟨"RodBeam", "allow", "()Z"⟩, 8), (⟨"RodBeam", "refuse", "(I)I"⟩, 8), (⟨"RodBeam", "give", "(I)I"⟩, 8), (⟨"RodBeam", "isRod", "(II)Z"⟩, 8), (⟨"RodBeam", "walkTo", "(IIZ)I"⟩, 8), (⟨"RodBeam", "giveShare", "(LRodBeam$Share;)I"⟩, 8), (⟨"RodBeam$Text", "write", "(C)V"⟩, 3), (⟨"RodBeam$Text", "writeWhole", "(LRodBeam$Whole;)V"⟩, 3), (⟨"RodBeam", "bears", "(LRodBeam$Section;II)Z"⟩, 8), (⟨"RodBeam", "forgetBests", "()V"⟩, 8), (⟨"RodBeam$Chooser", "listAsks", "(LRodBeam$Section;LRodBeam$Pairs;)V"⟩, 8)]
theorem lw_r1 : ∀ q ∈ lw_privs_1, lw_okq q := List.forall_mem_cons.mpr ⟨lw_p0, List.forall_mem_cons.mpr ⟨lw_p1, List.forall_mem_cons.mpr ⟨lw_p2, List.forall_mem_cons.mpr ⟨lw_p3, List.forall_mem_cons.mpr ⟨lw_p4, List.forall_mem_cons.mpr ⟨lw_p5, List.forall_mem_cons.mpr ⟨lw_p6, List.forall_mem_cons.mpr ⟨lw_p7, List.forall_mem_cons.mpr ⟨lw_p8, List.forall_mem_cons.mpr ⟨lw_p9, List.forall_mem_cons.mpr ⟨lw_p10, List.forall_mem_cons.mpr ⟨lw_p11, List.forall_mem_cons.mpr ⟨lw_p12, List.forall_mem_cons.mpr ⟨lw_p13, List.forall_mem_cons.mpr ⟨lw_p14, List.forall_mem_cons.mpr ⟨lw_p15, fun _ h => absurd h List.not_mem_nil⟩⟩⟩⟩⟩⟩⟩⟩⟩⟩⟩⟩⟩⟩⟩⟩
theorem lw_p16 : lw_okq (⟨"RodBeam$Chooser", "listAsk", "(LRodBeam$Section;IIZ)V"⟩, 8) := ⟨⟨by decide +kernel, by decide +kernel⟩, List.mem_of_getElem? (i := 258) (by decide +kernel), List.mem_of_getElem? (i := 642) (by decide +kernel), List.mem_of_getElem? (i := 643) (by decide +kernel)⟩
theorem lw_p17 : lw_okq (⟨"RodBeam$Chooser", "bearsAll", "(LRodBeam$Section;)Z"⟩, 8) := ⟨⟨by decide +kernel, by decide +kernel⟩, List.mem_of_getElem? (i := 258) (by decide +kernel), List.mem_of_getElem? (i := 655) (by decide +kernel), List.mem_of_getElem? (i := 656) (by decide +kernel)⟩
theorem lw_p18 : lw_okq (⟨"RodBeam$Chooser", "putFirst", "(I)V"⟩, 8) := ⟨⟨by decide +kernel, by decide +kernel⟩, List.mem_of_getElem? (i := 258) (by decide +kernel), List.mem_of_getElem? (i := 659) (by decide +kernel), List.mem_of_getElem? (i := 660) (by decide +kernel)⟩
theorem lw_p19 : lw_okq (⟨"RodBeam$Chooser", "choose", "(LRodBeam$Section;LRodBeam$Sizes;II)V"⟩, 8) := ⟨⟨by decide +kernel, by decide +kernel⟩, List.mem_of_getElem? (i := 258) (by decide +kernel), List.mem_of_getElem? (i := 663) (by decide +kernel), List.mem_of_getElem? (i := 664) (by decide +kernel)⟩
theorem lw_p20 : lw_okq (⟨"RodBeam$Chooser", "keep", "(LRodBeam$Section;I)V"⟩, 8) := ⟨⟨by decide +kernel, by decide +kernel⟩, List.mem_of_getElem? (i := 258) (by decide +kernel), List.mem_of_getElem? (i := 667) (by decide +kernel), List.mem_of_getElem? (i := 668) (by decide +kernel)⟩
theorem lw_p21 : lw_okq (⟨"RodBeam$Chooser", "attempt", "(LRodBeam$Section;LRodBeam$Sizes;III)V"⟩, 8) := ⟨⟨by decide +kernel, by decide +kernel⟩, List.mem_of_getElem? (i := 258) (by decide +kernel), List.mem_of_getElem? (i := 674) (by decide +kernel), List.mem_of_getElem? (i := 675) (by decide +kernel)⟩
theorem lw_p22 : lw_okq (⟨"RodBeam", "carryOut", "(LRodBeam$Section;)I"⟩, 8) := ⟨⟨by decide +kernel, by decide +kernel⟩, List.mem_of_getElem? (i := 18) (by decide +kernel), List.mem_of_getElem? (i := 700) (by decide +kernel), List.mem_of_getElem? (i := 701) (by decide +kernel)⟩
theorem lw_p23 : lw_okq (⟨"RodBeam", "isSpan", "(I)Z"⟩, 8) := ⟨⟨by decide +kernel, by decide +kernel⟩, List.mem_of_getElem? (i := 18) (by decide +kernel), List.mem_of_getElem? (i := 725) (by decide +kernel), List.mem_of_getElem? (i := 726) (by decide +kernel)⟩
theorem lw_p24 : lw_okq (⟨"RodBeam$Beam", "putSag", "(LRodBeam$Section;LRodBeam$Share;)V"⟩, 12) := ⟨⟨by decide +kernel, by decide +kernel⟩, List.mem_of_getElem? (i := 123) (by decide +kernel), List.mem_of_getElem? (i := 745) (by decide +kernel), List.mem_of_getElem? (i := 746) (by decide +kernel)⟩
theorem lw_p25 : lw_okq (⟨"RodBeam$Beam", "putSupport", "([LRodBeam$Section;ILRodBeam$Share;)V"⟩, 12) := ⟨⟨by decide +kernel, by decide +kernel⟩, List.mem_of_getElem? (i := 123) (by decide +kernel), List.mem_of_getElem? (i := 755) (by decide +kernel), List.mem_of_getElem? (i := 756) (by decide +kernel)⟩
theorem lw_p26 : lw_okq (⟨"RodBeam$Beam", "putHog", "(LRodBeam$Section;LRodBeam$Share;)V"⟩, 12) := ⟨⟨by decide +kernel, by decide +kernel⟩, List.mem_of_getElem? (i := 123) (by decide +kernel), List.mem_of_getElem? (i := 759) (by decide +kernel), List.mem_of_getElem? (i := 760) (by decide +kernel)⟩
theorem lw_p27 : lw_okq (⟨"RodBeam", "giveRatio", "(LRodBeam$Ratio;)I"⟩, 8) := ⟨⟨by decide +kernel, by decide +kernel⟩, List.mem_of_getElem? (i := 18) (by decide +kernel), List.mem_of_getElem? (i := 818) (by decide +kernel), List.mem_of_getElem? (i := 819) (by decide +kernel)⟩
theorem lw_p28 : lw_okq (⟨"RodBeamModel", "is", "(I)Z"⟩, 51) := ⟨⟨by decide +kernel, by decide +kernel⟩, List.mem_of_getElem? (i := 848) (by decide +kernel), List.mem_of_getElem? (i := 1023) (by decide +kernel), List.mem_of_getElem? (i := 1024) (by decide +kernel)⟩
theorem lw_p29 : lw_okq (⟨"RodBeamModel", "refuse", "(I)I"⟩, 51) := ⟨⟨by decide +kernel, by decide +kernel⟩, List.mem_of_getElem? (i := 848) (by decide +kernel), List.mem_of_getElem? (i := 1031) (by decide +kernel), List.mem_of_getElem? (i := 1032) (by decide +kernel)⟩
theorem lw_p30 : lw_okq (⟨"RodBeamModel", "isRod", "(II)Z"⟩, 51) := ⟨⟨by decide +kernel, by decide +kernel⟩, List.mem_of_getElem? (i := 848) (by decide +kernel), List.mem_of_getElem? (i := 1043) (by decide +kernel), List.mem_of_getElem? (i := 1044) (by decide +kernel)⟩
theorem lw_p31 : lw_okq (⟨"RodBeamModel", "asTold", "(I)V"⟩, 51) := ⟨⟨by decide +kernel, by decide +kernel⟩, List.mem_of_getElem? (i := 848) (by decide +kernel), List.mem_of_getElem? (i := 1051) (by decide +kernel), List.mem_of_getElem? (i := 1052) (by decide +kernel)⟩
def lw_privs_2 : List (MethodName × Nat) := [(⟨"RodBeam$Chooser", "listAsk", "(LRodBeam$Section;IIZ)V"⟩, 8), (⟨"RodBeam$Chooser", "bearsAll", "(LRodBeam$Section;)Z"⟩, 8), (⟨"RodBeam$Chooser", "putFirst", "(I)V"⟩, 8), (⟨"RodBeam$Chooser", "choose", "(LRodBeam$Section;LRodBeam$Sizes;II)V"⟩, 8), (⟨"RodBeam$Chooser", "keep", "(LRodBeam$Section;I)V"⟩, 8), (⟨"RodBeam$Chooser", "attempt", "(LRodBeam$Section;LRodBeam$Sizes;III)V"⟩, 8), (⟨"RodBeam", "carryOut", "(LRodBeam$Section;)I"⟩, 8), (⟨"RodBeam", "isSpan", "(I)Z"⟩, 8), (⟨"RodBeam$Beam", "putSag", "(LRodBeam$Section;LRodBeam$Share;)V"⟩, 12), (⟨"RodBeam$Beam", "putSupport", "([LRodBeam$Section;ILRodBeam$Share;)V"⟩, 12), (⟨"RodBeam$Beam", "putHog", "(LRodBeam$Section;LRodBeam$Share;)V"⟩, 12), (⟨"RodBeam", "giveRatio", "(LRodBeam$Ratio;)I"⟩, 8), (⟨"RodBeamModel", "is", "(I)Z"⟩, 51), (⟨"RodBeamModel", "refuse", "(I)I"⟩, 51), (⟨"RodBeamModel", "isRod", "(II)Z"⟩, 51), (⟨"RodBeamModel", "asTold", "(I)V"⟩, 51)]
theorem lw_r2 : ∀ q ∈ lw_privs_2, lw_okq q := List.forall_mem_cons.mpr ⟨lw_p16, List.forall_mem_cons.mpr ⟨lw_p17, List.forall_mem_cons.mpr ⟨lw_p18, List.forall_mem_cons.mpr ⟨lw_p19, List.forall_mem_cons.mpr ⟨lw_p20, List.forall_mem_cons.mpr ⟨lw_p21, List.forall_mem_cons.mpr ⟨lw_p22, List.forall_mem_cons.mpr ⟨lw_p23, List.forall_mem_cons.mpr ⟨lw_p24, List.forall_mem_cons.mpr ⟨lw_p25, List.forall_mem_cons.mpr ⟨lw_p26, List.forall_mem_cons.mpr ⟨lw_p27, List.forall_mem_cons.mpr ⟨lw_p28, List.forall_mem_cons.mpr ⟨lw_p29, List.forall_mem_cons.mpr ⟨lw_p30, List.forall_mem_cons.mpr ⟨lw_p31, fun _ h => absurd h List.not_mem_nil⟩⟩⟩⟩⟩⟩⟩⟩⟩⟩⟩⟩⟩⟩⟩⟩
theorem lw_p32 : lw_okq (⟨"RodBeamModel", "greatest", "(I)I"⟩, 51) := ⟨⟨by decide +kernel, by decide +kernel⟩, List.mem_of_getElem? (i := 848) (by decide +kernel), List.mem_of_getElem? (i := 1055) (by decide +kernel), List.mem_of_getElem? (i := 1056) (by decide +kernel)⟩
theorem lw_p33 : lw_okq (⟨"RodBeamModel", "pulls", "()I"⟩, 51) := ⟨⟨by decide +kernel, by decide +kernel⟩, List.mem_of_getElem? (i := 848) (by decide +kernel), List.mem_of_getElem? (i := 1059) (by decide +kernel), List.mem_of_getElem? (i := 1060) (by decide +kernel)⟩
theorem lw_p34 : lw_okq (⟨"RodBeamModel", "wrong", "(II)I"⟩, 51) := ⟨⟨by decide +kernel, by decide +kernel⟩, List.mem_of_getElem? (i := 848) (by decide +kernel), List.mem_of_getElem? (i := 1075) (by decide +kernel), List.mem_of_getElem? (i := 1076) (by decide +kernel)⟩
theorem lw_p35 : lw_okq (⟨"RodBeamModel", "isPush", "(II)Z"⟩, 51) := ⟨⟨by decide +kernel, by decide +kernel⟩, List.mem_of_getElem? (i := 848) (by decide +kernel), List.mem_of_getElem? (i := 1084) (by decide +kernel), List.mem_of_getElem? (i := 1085) (by decide +kernel)⟩
theorem lw_p36 : lw_okq (⟨"RodBeamModel", "go", "(IJZ)V"⟩, 51) := ⟨⟨by decide +kernel, by decide +kernel⟩, List.mem_of_getElem? (i := 848) (by decide +kernel), List.mem_of_getElem? (i := 1088) (by decide +kernel), List.mem_of_getElem? (i := 1089) (by decide +kernel)⟩
theorem lw_p37 : lw_okq (⟨"RodBeamModel", "at", "(II)J"⟩, 51) := ⟨⟨by decide +kernel, by decide +kernel⟩, List.mem_of_getElem? (i := 848) (by decide +kernel), List.mem_of_getElem? (i := 1093) (by decide +kernel), List.mem_of_getElem? (i := 1094) (by decide +kernel)⟩
theorem lw_p38 : lw_okq (⟨"RodBeamModel", "found", "(JJJJ)V"⟩, 51) := ⟨⟨by decide +kernel, by decide +kernel⟩, List.mem_of_getElem? (i := 848) (by decide +kernel), List.mem_of_getElem? (i := 1097) (by decide +kernel), List.mem_of_getElem? (i := 1098) (by decide +kernel)⟩
theorem lw_p39 : lw_okq (⟨"RodBeamModel", "whole", "(J)I"⟩, 51) := ⟨⟨by decide +kernel, by decide +kernel⟩, List.mem_of_getElem? (i := 848) (by decide +kernel), List.mem_of_getElem? (i := 1101) (by decide +kernel), List.mem_of_getElem? (i := 1102) (by decide +kernel)⟩
theorem lw_p40 : lw_okq (⟨"RodBeamModel", "room", "(I)I"⟩, 51) := ⟨⟨by decide +kernel, by decide +kernel⟩, List.mem_of_getElem? (i := 848) (by decide +kernel), List.mem_of_getElem? (i := 1105) (by decide +kernel), List.mem_of_getElem? (i := 1106) (by decide +kernel)⟩
theorem lw_p41 : lw_okq (⟨"RodBeamModel", "done", "(IIZ)I"⟩, 51) := ⟨⟨by decide +kernel, by decide +kernel⟩, List.mem_of_getElem? (i := 848) (by decide +kernel), List.mem_of_getElem? (i := 1110) (by decide +kernel), List.mem_of_getElem? (i := 1111) (by decide +kernel)⟩
theorem lw_p42 : lw_okq (⟨"RodBeamModel", "tells", "(II)I"⟩, 51) := ⟨⟨by decide +kernel, by decide +kernel⟩, List.mem_of_getElem? (i := 848) (by decide +kernel), List.mem_of_getElem? (i := 1114) (by decide +kernel), List.mem_of_getElem? (i := 1115) (by decide +kernel)⟩
theorem lw_p43 : lw_okq (⟨"RodBeamModel", "common", "(II)I"⟩, 51) := ⟨⟨by decide +kernel, by decide +kernel⟩, List.mem_of_getElem? (i := 848) (by decide +kernel), List.mem_of_getElem? (i := 1118) (by decide +kernel), List.mem_of_getElem? (i := 1119) (by decide +kernel)⟩
theorem lw_p44 : lw_okq (⟨"RodBeamModel", "places", "(I)I"⟩, 51) := ⟨⟨by decide +kernel, by decide +kernel⟩, List.mem_of_getElem? (i := 848) (by decide +kernel), List.mem_of_getElem? (i := 1122) (by decide +kernel), List.mem_of_getElem? (i := 1123) (by decide +kernel)⟩
theorem lw_p45 : lw_okq (⟨"RodBeamModel", "put", "(II)V"⟩, 51) := ⟨⟨by decide +kernel, by decide +kernel⟩, List.mem_of_getElem? (i := 848) (by decide +kernel), List.mem_of_getElem? (i := 1127) (by decide +kernel), List.mem_of_getElem? (i := 1128) (by decide +kernel)⟩
theorem lw_p46 : lw_okq (⟨"RodBeamModel", "divide", "(II)V"⟩, 51) := ⟨⟨by decide +kernel, by decide +kernel⟩, List.mem_of_getElem? (i := 848) (by decide +kernel), List.mem_of_getElem? (i := 1131) (by decide +kernel), List.mem_of_getElem? (i := 1132) (by decide +kernel)⟩
theorem lw_p47 : lw_okq (⟨"RodBeamModel", "compareSizes", "(II)I"⟩, 51) := ⟨⟨by decide +kernel, by decide +kernel⟩, List.mem_of_getElem? (i := 848) (by decide +kernel), List.mem_of_getElem? (i := 1135) (by decide +kernel), List.mem_of_getElem? (i := 1136) (by decide +kernel)⟩
def lw_privs_3 : List (MethodName × Nat) := [(⟨"RodBeamModel", "greatest", "(I)I"⟩, 51), (⟨"RodBeamModel", "pulls", "()I"⟩, 51), (⟨"RodBeamModel", "wrong", "(II)I"⟩, 51), (⟨"RodBeamModel", "isPush", "(II)Z"⟩, 51), (⟨"RodBeamModel", "go", "(IJZ)V"⟩, 51), (⟨"RodBeamModel", "at", "(II)J"⟩, 51), (⟨"RodBeamModel", "found", "(JJJJ)V"⟩, 51), (⟨"RodBeamModel", "whole", "(J)I"⟩, 51), (⟨"RodBeamModel", "room", "(I)I"⟩, 51), (⟨"RodBeamModel", "done", "(IIZ)I"⟩, 51), (⟨"RodBeamModel", "tells", "(II)I"⟩, 51), (⟨"RodBeamModel", "common", "(II)I"⟩, 51), (⟨"RodBeamModel", "places", "(I)I"⟩, 51), (⟨"RodBeamModel", "put", "(II)V"⟩, 51), (⟨"RodBeamModel", "divide", "(II)V"⟩, 51), (⟨"RodBeamModel", "compareSizes", "(II)I"⟩, 51)]
theorem lw_r3 : ∀ q ∈ lw_privs_3, lw_okq q := List.forall_mem_cons.mpr ⟨lw_p32, List.forall_mem_cons.mpr ⟨lw_p33, List.forall_mem_cons.mpr ⟨lw_p34, List.forall_mem_cons.mpr ⟨lw_p35, List.forall_mem_cons.mpr ⟨lw_p36, List.forall_mem_cons.mpr ⟨lw_p37, List.forall_mem_cons.mpr ⟨lw_p38, List.forall_mem_cons.mpr ⟨lw_p39, List.forall_mem_cons.mpr ⟨lw_p40, List.forall_mem_cons.mpr ⟨lw_p41, List.forall_mem_cons.mpr ⟨lw_p42, List.forall_mem_cons.mpr ⟨lw_p43, List.forall_mem_cons.mpr ⟨lw_p44, List.forall_mem_cons.mpr ⟨lw_p45, List.forall_mem_cons.mpr ⟨lw_p46, List.forall_mem_cons.mpr ⟨lw_p47, fun _ h => absurd h List.not_mem_nil⟩⟩⟩⟩⟩⟩⟩⟩⟩⟩⟩⟩⟩⟩⟩⟩
theorem lw_p48 : lw_okq (⟨"RodBeamModel", "divideShort", "(I)V"⟩, 51) := ⟨⟨by decide +kernel, by decide +kernel⟩, List.mem_of_getElem? (i := 848) (by decide +kernel), List.mem_of_getElem? (i := 1139) (by decide +kernel), List.mem_of_getElem? (i := 1140) (by decide +kernel)⟩
theorem lw_p49 : lw_okq (⟨"RodBeamModel", "step", "(II)I"⟩, 51) := ⟨⟨by decide +kernel, by decide +kernel⟩, List.mem_of_getElem? (i := 848) (by decide +kernel), List.mem_of_getElem? (i := 1145) (by decide +kernel), List.mem_of_getElem? (i := 1146) (by decide +kernel)⟩
theorem lw_p50 : lw_okq (⟨"RodBeamModel", "divided", "(II)I"⟩, 51) := ⟨⟨by decide +kernel, by decide +kernel⟩, List.mem_of_getElem? (i := 848) (by decide +kernel), List.mem_of_getElem? (i := 1150) (by decide +kernel), List.mem_of_getElem? (i := 1151) (by decide +kernel)⟩
theorem lw_p51 : lw_okq (⟨"RodBeamModel", "sign", "(I)I"⟩, 51) := ⟨⟨by decide +kernel, by decide +kernel⟩, List.mem_of_getElem? (i := 848) (by decide +kernel), List.mem_of_getElem? (i := 1154) (by decide +kernel), List.mem_of_getElem? (i := 1155) (by decide +kernel)⟩
theorem lw_p52 : lw_okq (⟨"RodBeamModel", "turned", "(I)I"⟩, 51) := ⟨⟨by decide +kernel, by decide +kernel⟩, List.mem_of_getElem? (i := 848) (by decide +kernel), List.mem_of_getElem? (i := 1158) (by decide +kernel), List.mem_of_getElem? (i := 1159) (by decide +kernel)⟩
theorem lw_p53 : lw_okq (⟨"RodBeamModel", "copy", "(I)I"⟩, 51) := ⟨⟨by decide +kernel, by decide +kernel⟩, List.mem_of_getElem? (i := 848) (by decide +kernel), List.mem_of_getElem? (i := 1162) (by decide +kernel), List.mem_of_getElem? (i := 1163) (by decide +kernel)⟩
theorem lw_p54 : lw_okq (⟨"RodBeamModel", "tellsNumber", "(I)V"⟩, 51) := ⟨⟨by decide +kernel, by decide +kernel⟩, List.mem_of_getElem? (i := 848) (by decide +kernel), List.mem_of_getElem? (i := 1166) (by decide +kernel), List.mem_of_getElem? (i := 1167) (by decide +kernel)⟩
theorem lw_p55 : lw_okq (⟨"RodBeamModel", "tells0", "(I)V"⟩, 51) := ⟨⟨by decide +kernel, by decide +kernel⟩, List.mem_of_getElem? (i := 848) (by decide +kernel), List.mem_of_getElem? (i := 1170) (by decide +kernel), List.mem_of_getElem? (i := 1171) (by decide +kernel)⟩
theorem lw_p56 : lw_okq (⟨"RodBeamModel", "bears", "(III)Z"⟩, 51) := ⟨⟨by decide +kernel, by decide +kernel⟩, List.mem_of_getElem? (i := 848) (by decide +kernel), List.mem_of_getElem? (i := 1183) (by decide +kernel), List.mem_of_getElem? (i := 1184) (by decide +kernel)⟩
theorem lw_p57 : lw_okq (⟨"RodBeamModel", "fails", "(I)I"⟩, 51) := ⟨⟨by decide +kernel, by decide +kernel⟩, List.mem_of_getElem? (i := 848) (by decide +kernel), List.mem_of_getElem? (i := 1199) (by decide +kernel), List.mem_of_getElem? (i := 1200) (by decide +kernel)⟩
theorem lw_p58 : lw_okq (⟨"RodBeamModel", "choose", "(I)Z"⟩, 51) := ⟨⟨by decide +kernel, by decide +kernel⟩, List.mem_of_getElem? (i := 848) (by decide +kernel), List.mem_of_getElem? (i := 1211) (by decide +kernel), List.mem_of_getElem? (i := 1212) (by decide +kernel)⟩
theorem lw_p59 : lw_okq (⟨"RodBeamModel", "isSpan", "(I)Z"⟩, 51) := ⟨⟨by decide +kernel, by decide +kernel⟩, List.mem_of_getElem? (i := 848) (by decide +kernel), List.mem_of_getElem? (i := 1239) (by decide +kernel), List.mem_of_getElem? (i := 1240) (by decide +kernel)⟩
theorem lw_p60 : lw_okq (⟨"RodBeamModel", "timesOf", "(II)V"⟩, 51) := ⟨⟨by decide +kernel, by decide +kernel⟩, List.mem_of_getElem? (i := 848) (by decide +kernel), List.mem_of_getElem? (i := 1247) (by decide +kernel), List.mem_of_getElem? (i := 1248) (by decide +kernel)⟩
theorem lw_p61 : lw_okq (⟨"RodBeamModel", "gather", "(II)V"⟩, 51) := ⟨⟨by decide +kernel, by decide +kernel⟩, List.mem_of_getElem? (i := 848) (by decide +kernel), List.mem_of_getElem? (i := 1251) (by decide +kernel), List.mem_of_getElem? (i := 1252) (by decide +kernel)⟩
theorem lw_p62 : lw_okq (⟨"RodBeamModel", "strengthOf", "(IZ)V"⟩, 51) := ⟨⟨by decide +kernel, by decide +kernel⟩, List.mem_of_getElem? (i := 848) (by decide +kernel), List.mem_of_getElem? (i := 1255) (by decide +kernel), List.mem_of_getElem? (i := 1256) (by decide +kernel)⟩
theorem lw_p63 : lw_okq (⟨"RodBeamModel", "hogOf", "(I)V"⟩, 51) := ⟨⟨by decide +kernel, by decide +kernel⟩, List.mem_of_getElem? (i := 848) (by decide +kernel), List.mem_of_getElem? (i := 1259) (by decide +kernel), List.mem_of_getElem? (i := 1260) (by decide +kernel)⟩
def lw_privs_4 : List (MethodName × Nat) := [(⟨"RodBeamModel", "divideShort", "(I)V"⟩, 51), (⟨"RodBeamModel", "step", "(II)I"⟩, 51), (⟨"RodBeamModel", "divided", "(II)I"⟩, 51), (⟨"RodBeamModel", "sign", "(I)I"⟩, 51), (⟨"RodBeamModel", "turned", "(I)I"⟩, 51), (⟨"RodBeamModel", "copy", "(I)I"⟩, 51), (⟨"RodBeamModel", "tellsNumber", "(I)V"⟩, 51), (⟨"RodBeamModel", "tells0", "(I)V"⟩, 51), (⟨"RodBeamModel", "bears", "(III)Z"⟩, 51), (⟨"RodBeamModel", "fails", "(I)I"⟩, 51), (⟨"RodBeamModel", "choose", "(I)Z"⟩, 51), (⟨"RodBeamModel", "isSpan", "(I)Z"⟩, 51), (⟨"RodBeamModel", "timesOf", "(II)V"⟩, 51), (⟨"RodBeamModel", "gather", "(II)V"⟩, 51), (⟨"RodBeamModel", "strengthOf", "(IZ)V"⟩, 51), (⟨"RodBeamModel", "hogOf", "(I)V"⟩, 51)]
theorem lw_r4 : ∀ q ∈ lw_privs_4, lw_okq q := List.forall_mem_cons.mpr ⟨lw_p48, List.forall_mem_cons.mpr ⟨lw_p49, List.forall_mem_cons.mpr ⟨lw_p50, List.forall_mem_cons.mpr ⟨lw_p51, List.forall_mem_cons.mpr ⟨lw_p52, List.forall_mem_cons.mpr ⟨lw_p53, List.forall_mem_cons.mpr ⟨lw_p54, List.forall_mem_cons.mpr ⟨lw_p55, List.forall_mem_cons.mpr ⟨lw_p56, List.forall_mem_cons.mpr ⟨lw_p57, List.forall_mem_cons.mpr ⟨lw_p58, List.forall_mem_cons.mpr ⟨lw_p59, List.forall_mem_cons.mpr ⟨lw_p60, List.forall_mem_cons.mpr ⟨lw_p61, List.forall_mem_cons.mpr ⟨lw_p62, List.forall_mem_cons.mpr ⟨lw_p63, fun _ h => absurd h List.not_mem_nil⟩⟩⟩⟩⟩⟩⟩⟩⟩⟩⟩⟩⟩⟩⟩⟩
theorem lw_p64 : lw_okq (⟨"RodBeamModel", "less3", "(JJJJ)Z"⟩, 51) := ⟨⟨by decide +kernel, by decide +kernel⟩, List.mem_of_getElem? (i := 848) (by decide +kernel), List.mem_of_getElem? (i := 1263) (by decide +kernel), List.mem_of_getElem? (i := 1264) (by decide +kernel)⟩
theorem lw_p65 : lw_okq (⟨"RodBeamModel", "product", "(II)I"⟩, 51) := ⟨⟨by decide +kernel, by decide +kernel⟩, List.mem_of_getElem? (i := 848) (by decide +kernel), List.mem_of_getElem? (i := 1267) (by decide +kernel), List.mem_of_getElem? (i := 1268) (by decide +kernel)⟩
theorem lw_p66 : lw_okq (⟨"RodBeamModel", "less", "(II)I"⟩, 51) := ⟨⟨by decide +kernel, by decide +kernel⟩, List.mem_of_getElem? (i := 848) (by decide +kernel), List.mem_of_getElem? (i := 1271) (by decide +kernel), List.mem_of_getElem? (i := 1272) (by decide +kernel)⟩
theorem lw_p67 : lw_okq (⟨"RodBeamModel", "sum", "(II)I"⟩, 51) := ⟨⟨by decide +kernel, by decide +kernel⟩, List.mem_of_getElem? (i := 848) (by decide +kernel), List.mem_of_getElem? (i := 1275) (by decide +kernel), List.mem_of_getElem? (i := 1276) (by decide +kernel)⟩
theorem lw_p68 : lw_okq (⟨"RodBeamModel", "finds", "()Z"⟩, 51) := ⟨⟨by decide +kernel, by decide +kernel⟩, List.mem_of_getElem? (i := 848) (by decide +kernel), List.mem_of_getElem? (i := 1283) (by decide +kernel), List.mem_of_getElem? (i := 1284) (by decide +kernel)⟩
theorem lw_p69 : lw_okq (⟨"RodBeamModel", "held", "(I)I"⟩, 51) := ⟨⟨by decide +kernel, by decide +kernel⟩, List.mem_of_getElem? (i := 848) (by decide +kernel), List.mem_of_getElem? (i := 1287) (by decide +kernel), List.mem_of_getElem? (i := 1288) (by decide +kernel)⟩
theorem lw_p70 : lw_okq (⟨"RodBeamModel", "keep", "(II)V"⟩, 51) := ⟨⟨by decide +kernel, by decide +kernel⟩, List.mem_of_getElem? (i := 848) (by decide +kernel), List.mem_of_getElem? (i := 1291) (by decide +kernel), List.mem_of_getElem? (i := 1292) (by decide +kernel)⟩
def lw_privs_5 : List (MethodName × Nat) := [(⟨"RodBeamModel", "less3", "(JJJJ)Z"⟩, 51), (⟨"RodBeamModel", "product", "(II)I"⟩, 51), (⟨"RodBeamModel", "less", "(II)I"⟩, 51), (⟨"RodBeamModel", "sum", "(II)I"⟩, 51), (⟨"RodBeamModel", "finds", "()Z"⟩, 51), (⟨"RodBeamModel", "held", "(I)I"⟩, 51), (⟨"RodBeamModel", "keep", "(II)V"⟩, 51)]
theorem lw_r5 : ∀ q ∈ lw_privs_5, lw_okq q := List.forall_mem_cons.mpr ⟨lw_p64, List.forall_mem_cons.mpr ⟨lw_p65, List.forall_mem_cons.mpr ⟨lw_p66, List.forall_mem_cons.mpr ⟨lw_p67, List.forall_mem_cons.mpr ⟨lw_p68, List.forall_mem_cons.mpr ⟨lw_p69, List.forall_mem_cons.mpr ⟨lw_p70, fun _ h => absurd h List.not_mem_nil⟩⟩⟩⟩⟩⟩⟩
def lw_privs : List (MethodName × Nat) := lw_privs_1 ++ (lw_privs_2 ++ (lw_privs_3 ++ (lw_privs_4 ++ (lw_privs_5))))
def lw_tbl : List Cond := k2_sels lw_privs ++ tables_1
theorem lw_privs_ok : ∀ q ∈ lw_privs, lw_okq q := by
  show ∀ q ∈ lw_privs_1 ++ (lw_privs_2 ++ (lw_privs_3 ++ (lw_privs_4 ++ (lw_privs_5)))), lw_okq q
  exact List.forall_mem_append.mpr ⟨lw_r1, List.forall_mem_append.mpr ⟨lw_r2, List.forall_mem_append.mpr ⟨lw_r3, List.forall_mem_append.mpr ⟨lw_r4, lw_r5⟩⟩⟩⟩
-- ===== end of PART A; then your names; then what follows =====
/-! THE CLAIM OUT OF ONE WALK OF THE LAW'S BODY. Your part is whole_start (and what it stands on); all else here is the same for every law, but numbers. -/
def R_law : String := "RodBeamLaw"
def lw_P (b : Addr) (xs : List Int32) (args : Array Value) (s : State) : Prop := args = #[.ref b] ∧ s.IntsAt b xs ∧ xs.length ≤ 2560 ∧ (Jvm.Cond.and given_1 narrow_1).before args s = true
def lw_Q (_ : Array Value) (s : State) (o : Outcome) (t : State) : Prop := o = .returned (some (.int 1)) ∧ Framed s o t [] 600000 7302250
def lw_Z (below : List Frame) (a : Array Value) (s : State) : State → Prop := fun t => ∃ o, t.status = .running ∧ Ended t below o ∧ lw_Q a s o t
/-- the law's own end, with 1 on the stack, nothing written that was there before, its room as the claim has it -/
theorem lw_ret {p : Program} {l : Launch} {e : Env} {s : State} {m : MethodId} {below : List Frame} {meth : Method} {c : Code} {b : Nat} (hx : p.tables.exec = Jvm.exec) (hb : c.code = code) (hr : meth.sig.returnType = ret) (hlocks : meth.locks = false) {pc : Nat} {H : Heap} {ls : Array Slot} (hdg : decode code pc = .ok (.ireturn, 1)) : W p l e room_1 s m #[Value.ref b] below meth c H [] 600000 7302250 (lw_Z below #[Value.ref b] s) (F0 m pc ls [.int 1]) := by
  intro T hT X
  obtain ⟨fs, hret, hrun, hended, hW, hframe⟩ := X.leave (v := some (.int 1)) (hlocks := hlocks) (fun h => by rw [hr] at h; cases h)
  have hmeth' : T.vm.method? m = some meth := X.method'
  refine ⟨T.setFrames fs, ?_, .returned (some (.int 1)), hrun, hended, rfl, ⟨_, rfl⟩, hW, hframe⟩
  jvm_step X.here [X.here.top, hx, hb, hdg, hmeth', hr, ret, narrow_b1]
  (try refine ⟨rfl, ?_⟩); (try refine ⟨rfl, ?_⟩)
  first | (intro acts; rw [hret _ acts rfl rfl rfl]) | rw [hret _ _ rfl rfl rfl]
  exact Steps.refl _
/-- what holds at the law's entry: the machine, the code, the tables' words (any of lw_tbl by 'hts w (by decide +kernel)'), the script of L ints xs at the cell b, what the Statement gives of the start (any of its parts by flat_of_before) -/
def lw_At (p : Program) (s : State) (m : MethodId) (meth : Method) (c : Code) (b L : Nat) (xs : Nat → Int32) : Prop :=
  p.tables.exec = Jvm.exec ∧ c.code = code ∧ meth.sig.returnType = ret ∧ c.maxLocals = 4 ∧ s.vm.findClass R_law = some m.cls ∧ (∀ w ∈ lw_tbl, w.before #[Value.ref b] s = true) ∧ va_X b L xs s s.heap ∧ b < s.heap.size ∧ meth.locks = false ∧ (Jvm.Cond.and given_1 narrow_1).before #[Value.ref b] s = true
end
section
def RX0 : String := "RodBeam$Beam"
def TX0 : u_T := fun k => match k with
  | 0 => ("RodBeam$Beam", "count", "I", false)
  | 1 => ("RodBeam$Beam", "spans", "[LRodBeam$Span;", true)
  | 2 => ("RodBeam$Beam", "held", "[Z", true)
  | 3 => ("RodBeam$Beam", "here", "LRodBeam$Ratio;", true)
  | 4 => ("RodBeam$Beam", "least", "LRodBeam$Ratio;", true)
  | 5 => ("RodBeam$Beam", "leastSpan", "I", false)
  | 6 => ("RodBeam$Beam", "leastLoad", "I", false)
  | 7 => ("RodBeam$Beam", "walk", "LRodBeam$Walk;", true)
  | 8 => ("RodBeam$Beam", "sum", "LRodBeam$Share;", true)
  | 9 => ("RodBeam$Beam", "left", "LRodBeam$Share;", true)
  | 10 => ("RodBeam$Beam", "right", "LRodBeam$Share;", true)
  | _ => ("RodBeam$Beam", "other", "LRodBeam$Share;", true)
def tyX0 : Nat → FieldType := fun k => match k with
  | 0 => .int
  | 1 => .array (.object "RodBeam$Span")
  | 2 => .array .boolean
  | 3 => .object "RodBeam$Ratio"
  | 4 => .object "RodBeam$Ratio"
  | 5 => .int
  | 6 => .int
  | 7 => .object "RodBeam$Walk"
  | 8 => .object "RodBeam$Share"
  | 9 => .object "RodBeam$Share"
  | 10 => .object "RodBeam$Share"
  | _ => .object "RodBeam$Share"
theorem nmX0 : ∀ a, a < 12 → ∀ b, b < 12 → a ≠ b → (TX0 a).2.1 ≠ (TX0 b).2.1 := by decide +kernel
theorem tyX0_ok : ∀ k, k < 12 → parseFieldDescriptor (TX0 k).2.2.1 = some (tyX0 k) := by decide +kernel
abbrev cX0_init : ByteArray := prog_2_method_1_code
def yX0_init : MethodName := ⟨RX0, "<init>", "()V"⟩
abbrev cX0_addSpan : ByteArray := prog_2_method_2_code
def yX0_addSpan : MethodName := ⟨RX0, "addSpan", "(II)I"⟩
abbrev cX0_reckonLeast : ByteArray := prog_2_method_3_code
def yX0_reckonLeast : MethodName := ⟨RX0, "reckonLeast", "([LRodBeam$Section;)Z"⟩
abbrev cX0_reckon : ByteArray := prog_2_method_4_code
def yX0_reckon : MethodName := ⟨RX0, "reckon", "([LRodBeam$Section;II)V"⟩
abbrev cX0_putSag : ByteArray := prog_2_method_5_code
def yX0_putSag : MethodName := ⟨RX0, "putSag", "(LRodBeam$Section;LRodBeam$Share;)V"⟩
abbrev cX0_putHog : ByteArray := prog_2_method_6_code
def yX0_putHog : MethodName := ⟨RX0, "putHog", "(LRodBeam$Section;LRodBeam$Share;)V"⟩
abbrev cX0_putSupport : ByteArray := prog_2_method_7_code
def yX0_putSupport : MethodName := ⟨RX0, "putSupport", "([LRodBeam$Section;ILRodBeam$Share;)V"⟩
def RX1 : String := "RodBeam$Chooser"
def TX1 : u_T := fun k => match k with
  | 0 => ("RodBeam$Chooser", "walk", "LRodBeam$Walk;", true)
  | 1 => ("RodBeam$Chooser", "asks", "I", false)
  | 2 => ("RodBeam$Chooser", "askPush", "[I", true)
  | 3 => ("RodBeam$Chooser", "askBending", "[I", true)
  | 4 => ("RodBeam$Chooser", "askHigh", "[Z", true)
  | 5 => ("RodBeam$Chooser", "strongest", "I", false)
  | 6 => ("RodBeam$Chooser", "trial", "[I", true)
  | _ => ("RodBeam$Chooser", "pick", "[I", true)
def tyX1 : Nat → FieldType := fun k => match k with
  | 0 => .object "RodBeam$Walk"
  | 1 => .int
  | 2 => .array .int
  | 3 => .array .int
  | 4 => .array .boolean
  | 5 => .int
  | 6 => .array .int
  | _ => .array .int
theorem nmX1 : ∀ a, a < 8 → ∀ b, b < 8 → a ≠ b → (TX1 a).2.1 ≠ (TX1 b).2.1 := by decide +kernel
theorem tyX1_ok : ∀ k, k < 8 → parseFieldDescriptor (TX1 k).2.2.1 = some (tyX1 k) := by decide +kernel
abbrev cX1_init : ByteArray := prog_3_method_1_code
def yX1_init : MethodName := ⟨RX1, "<init>", "()V"⟩
abbrev cX1_findBest : ByteArray := prog_3_method_2_code
def yX1_findBest : MethodName := ⟨RX1, "findBest", "(LRodBeam$Section;LRodBeam$Pairs;LRodBeam$Sizes;)Z"⟩
abbrev cX1_listAsks : ByteArray := prog_3_method_3_code
def yX1_listAsks : MethodName := ⟨RX1, "listAsks", "(LRodBeam$Section;LRodBeam$Pairs;)V"⟩
abbrev cX1_listAsk : ByteArray := prog_3_method_4_code
def yX1_listAsk : MethodName := ⟨RX1, "listAsk", "(LRodBeam$Section;IIZ)V"⟩
abbrev cX1_bearsAll : ByteArray := prog_3_method_5_code
def yX1_bearsAll : MethodName := ⟨RX1, "bearsAll", "(LRodBeam$Section;)Z"⟩
abbrev cX1_putFirst : ByteArray := prog_3_method_6_code
def yX1_putFirst : MethodName := ⟨RX1, "putFirst", "(I)V"⟩
abbrev cX1_choose : ByteArray := prog_3_method_7_code
def yX1_choose : MethodName := ⟨RX1, "choose", "(LRodBeam$Section;LRodBeam$Sizes;II)V"⟩
abbrev cX1_attempt : ByteArray := prog_3_method_8_code
def yX1_attempt : MethodName := ⟨RX1, "attempt", "(LRodBeam$Section;LRodBeam$Sizes;III)V"⟩
abbrev cX1_keep : ByteArray := prog_3_method_9_code
def yX1_keep : MethodName := ⟨RX1, "keep", "(LRodBeam$Section;I)V"⟩
def RX2 : String := "RodBeam$Pairs"
def TX2 : u_T := fun k => match k with
  | 0 => ("RodBeam$Pairs", "count", "I", false)
  | 1 => ("RodBeam$Pairs", "push", "[I", true)
  | _ => ("RodBeam$Pairs", "bending", "[I", true)
def tyX2 : Nat → FieldType := fun k => match k with
  | 0 => .int
  | 1 => .array .int
  | _ => .array .int
theorem nmX2 : ∀ a, a < 3 → ∀ b, b < 3 → a ≠ b → (TX2 a).2.1 ≠ (TX2 b).2.1 := by decide +kernel
theorem tyX2_ok : ∀ k, k < 3 → parseFieldDescriptor (TX2 k).2.2.1 = some (tyX2 k) := by decide +kernel
abbrev cX2_init : ByteArray := prog_4_method_1_code
def yX2_init : MethodName := ⟨RX2, "<init>", "()V"⟩
abbrev cX2_add : ByteArray := prog_4_method_2_code
def yX2_add : MethodName := ⟨RX2, "add", "(II)I"⟩
def RX3 : String := "RodBeam$Ratio"
def TX3 : u_T := fun k => match k with
  | 0 => ("RodBeam$Ratio", "top", "LRodBeam$Whole;", true)
  | 1 => ("RodBeam$Ratio", "bottom", "LRodBeam$Whole;", true)
  | 2 => ("RodBeam$Ratio", "one", "LRodBeam$Whole;", true)
  | 3 => ("RodBeam$Ratio", "two", "LRodBeam$Whole;", true)
  | _ => ("RodBeam$Ratio", "three", "LRodBeam$Whole;", true)
def tyX3 : Nat → FieldType := fun k => match k with
  | 0 => .object "RodBeam$Whole"
  | 1 => .object "RodBeam$Whole"
  | 2 => .object "RodBeam$Whole"
  | 3 => .object "RodBeam$Whole"
  | _ => .object "RodBeam$Whole"
theorem nmX3 : ∀ a, a < 5 → ∀ b, b < 5 → a ≠ b → (TX3 a).2.1 ≠ (TX3 b).2.1 := by decide +kernel
theorem tyX3_ok : ∀ k, k < 5 → parseFieldDescriptor (TX3 k).2.2.1 = some (tyX3 k) := by decide +kernel
abbrev cX3_init : ByteArray := prog_5_method_1_code
def yX3_init : MethodName := ⟨RX3, "<init>", "()V"⟩
abbrev cX3_put : ByteArray := prog_5_method_2_code
def yX3_put : MethodName := ⟨RX3, "put", "(JJ)V"⟩
abbrev cX3_copy : ByteArray := prog_5_method_3_code
def yX3_copy : MethodName := ⟨RX3, "copy", "(LRodBeam$Ratio;)V"⟩
abbrev cX3_putSum : ByteArray := prog_5_method_4_code
def yX3_putSum : MethodName := ⟨RX3, "putSum", "(LRodBeam$Share;LRodBeam$Share;)V"⟩
abbrev cX3_divide : ByteArray := prog_5_method_5_code
def yX3_divide : MethodName := ⟨RX3, "divide", "(J)V"⟩
abbrev cX3_isUnder : ByteArray := prog_5_method_6_code
def yX3_isUnder : MethodName := ⟨RX3, "isUnder", "(LRodBeam$Ratio;)Z"⟩
def RX4 : String := "RodBeam$Section"
def TX4 : u_T := fun k => match k with
  | 0 => ("RodBeam$Section", "stoneStrength", "I", false)
  | 1 => ("RodBeam$Section", "middle", "I", false)
  | 2 => ("RodBeam$Section", "stonePush", "I", false)
  | 3 => ("RodBeam$Section", "bands", "I", false)
  | 4 => ("RodBeam$Section", "bandWidth", "[I", true)
  | 5 => ("RodBeam$Section", "bandFrom", "[I", true)
  | 6 => ("RodBeam$Section", "bandTo", "[I", true)
  | 7 => ("RodBeam$Section", "rods", "I", false)
  | 8 => ("RodBeam$Section", "rodHeight", "[I", true)
  | 9 => ("RodBeam$Section", "rodStrength", "[I", true)
  | 10 => ("RodBeam$Section", "edges", "I", false)
  | 11 => ("RodBeam$Section", "edge", "[I", true)
  | 12 => ("RodBeam$Section", "density", "[I", true)
  | 13 => ("RodBeam$Section", "edgeOfRod", "[I", true)
  | 14 => ("RodBeam$Section", "bestKnown", "Z", false)
  | 15 => ("RodBeam$Section", "bestPossible", "Z", false)
  | 16 => ("RodBeam$Section", "bestPrice", "I", false)
  | _ => ("RodBeam$Section", "bestPick", "[I", true)
def tyX4 : Nat → FieldType := fun k => match k with
  | 0 => .int
  | 1 => .int
  | 2 => .int
  | 3 => .int
  | 4 => .array .int
  | 5 => .array .int
  | 6 => .array .int
  | 7 => .int
  | 8 => .array .int
  | 9 => .array .int
  | 10 => .int
  | 11 => .array .int
  | 12 => .array .int
  | 13 => .array .int
  | 14 => .boolean
  | 15 => .boolean
  | 16 => .int
  | _ => .array .int
theorem nmX4 : ∀ a, a < 18 → ∀ b, b < 18 → a ≠ b → (TX4 a).2.1 ≠ (TX4 b).2.1 := by decide +kernel
theorem tyX4_ok : ∀ k, k < 18 → parseFieldDescriptor (TX4 k).2.2.1 = some (tyX4 k) := by decide +kernel
abbrev cX4_init : ByteArray := prog_6_method_1_code
def yX4_init : MethodName := ⟨RX4, "<init>", "()V"⟩
abbrev cX4_begin : ByteArray := prog_6_method_2_code
def yX4_begin : MethodName := ⟨RX4, "begin", "(II)V"⟩
abbrev cX4_addBand : ByteArray := prog_6_method_3_code
def yX4_addBand : MethodName := ⟨RX4, "addBand", "(III)I"⟩
abbrev cX4_addRod : ByteArray := prog_6_method_4_code
def yX4_addRod : MethodName := ⟨RX4, "addRod", "(II)I"⟩
abbrev cX4_area : ByteArray := prog_6_method_5_code
def yX4_area : MethodName := ⟨RX4, "area", "()I"⟩
abbrev cX4_rodsTogether : ByteArray := prog_6_method_6_code
def yX4_rodsTogether : MethodName := ⟨RX4, "rodsTogether", "()I"⟩
abbrev cX4_widthAbove : ByteArray := prog_6_method_7_code
def yX4_widthAbove : MethodName := ⟨RX4, "widthAbove", "(I)I"⟩
abbrev cX4_findEdges : ByteArray := prog_6_method_8_code
def yX4_findEdges : MethodName := ⟨RX4, "findEdges", "()V"⟩
abbrev cX4_isEdge : ByteArray := prog_6_method_9_code
def yX4_isEdge : MethodName := ⟨RX4, "isEdge", "(I)Z"⟩
abbrev cX4_placeRods : ByteArray := prog_6_method_10_code
def yX4_placeRods : MethodName := ⟨RX4, "placeRods", "(II)V"⟩
def RX5 : String := "RodBeam$Share"
def TX5 : u_T := fun k => match k with
  | 0 => ("RodBeam$Share", "top", "J", false)
  | _ => ("RodBeam$Share", "bottom", "J", false)
def tyX5 : Nat → FieldType := fun k => match k with
  | 0 => .long
  | _ => .long
theorem nmX5 : ∀ a, a < 2 → ∀ b, b < 2 → a ≠ b → (TX5 a).2.1 ≠ (TX5 b).2.1 := by decide +kernel
theorem tyX5_ok : ∀ k, k < 2 → parseFieldDescriptor (TX5 k).2.2.1 = some (tyX5 k) := by decide +kernel
abbrev cX5_init : ByteArray := prog_7_method_1_code
def yX5_init : MethodName := ⟨RX5, "<init>", "()V"⟩
abbrev cX5_put : ByteArray := prog_7_method_2_code
def yX5_put : MethodName := ⟨RX5, "put", "(JJ)V"⟩
abbrev cX5_shorten : ByteArray := prog_7_method_3_code
def yX5_shorten : MethodName := ⟨RX5, "shorten", "()V"⟩
abbrev cX5_scale : ByteArray := prog_7_method_4_code
def yX5_scale : MethodName := ⟨RX5, "scale", "(J)V"⟩
abbrev cX5_plus : ByteArray := prog_7_method_5_code
def yX5_plus : MethodName := ⟨RX5, "plus", "(LRodBeam$Share;)V"⟩
abbrev cX5_isUnder : ByteArray := prog_7_method_6_code
def yX5_isUnder : MethodName := ⟨RX5, "isUnder", "(LRodBeam$Share;)Z"⟩
def RX6 : String := "RodBeam$Sizes"
def TX6 : u_T := fun k => match k with
  | 0 => ("RodBeam$Sizes", "count", "I", false)
  | 1 => ("RodBeam$Sizes", "strengths", "[I", true)
  | _ => ("RodBeam$Sizes", "prices", "[I", true)
def tyX6 : Nat → FieldType := fun k => match k with
  | 0 => .int
  | 1 => .array .int
  | _ => .array .int
theorem nmX6 : ∀ a, a < 3 → ∀ b, b < 3 → a ≠ b → (TX6 a).2.1 ≠ (TX6 b).2.1 := by decide +kernel
theorem tyX6_ok : ∀ k, k < 3 → parseFieldDescriptor (TX6 k).2.2.1 = some (tyX6 k) := by decide +kernel
abbrev cX6_init : ByteArray := prog_8_method_1_code
def yX6_init : MethodName := ⟨RX6, "<init>", "()V"⟩
abbrev cX6_add : ByteArray := prog_8_method_2_code
def yX6_add : MethodName := ⟨RX6, "add", "(II)I"⟩
abbrev cX6_strengthOf : ByteArray := prog_8_method_3_code
def yX6_strengthOf : MethodName := ⟨RX6, "strengthOf", "(I)I"⟩
abbrev cX6_priceOf : ByteArray := prog_8_method_4_code
def yX6_priceOf : MethodName := ⟨RX6, "priceOf", "(I)I"⟩
abbrev cX6_strongest : ByteArray := prog_8_method_5_code
def yX6_strongest : MethodName := ⟨RX6, "strongest", "()I"⟩
abbrev cX6_isIdle : ByteArray := prog_8_method_6_code
def yX6_isIdle : MethodName := ⟨RX6, "isIdle", "(I)Z"⟩
def RX7 : String := "RodBeam$Span"
def TX7 : u_T := fun k => match k with
  | 0 => ("RodBeam$Span", "length", "I", false)
  | 1 => ("RodBeam$Span", "section", "I", false)
  | 2 => ("RodBeam$Span", "loads", "I", false)
  | 3 => ("RodBeam$Span", "place", "[I", true)
  | _ => ("RodBeam$Span", "weight", "[I", true)
def tyX7 : Nat → FieldType := fun k => match k with
  | 0 => .int
  | 1 => .int
  | 2 => .int
  | 3 => .array .int
  | _ => .array .int
theorem nmX7 : ∀ a, a < 5 → ∀ b, b < 5 → a ≠ b → (TX7 a).2.1 ≠ (TX7 b).2.1 := by decide +kernel
theorem tyX7_ok : ∀ k, k < 5 → parseFieldDescriptor (TX7 k).2.2.1 = some (tyX7 k) := by decide +kernel
abbrev cX7_init : ByteArray := prog_9_method_1_code
def yX7_init : MethodName := ⟨RX7, "<init>", "()V"⟩
abbrev cX7_hasLoadAt : ByteArray := prog_9_method_2_code
def yX7_hasLoadAt : MethodName := ⟨RX7, "hasLoadAt", "(I)Z"⟩
abbrev cX7_addLoad : ByteArray := prog_9_method_3_code
def yX7_addLoad : MethodName := ⟨RX7, "addLoad", "(II)I"⟩
abbrev cX7_freeTimesLength : ByteArray := prog_9_method_4_code
def yX7_freeTimesLength : MethodName := ⟨RX7, "freeTimesLength", "(I)J"⟩
def RX8 : String := "RodBeam$Text"
def TX8 : u_T := fun k => match k with
  | 0 => ("RodBeam$Text", "length", "I", false)
  | 1 => ("RodBeam$Text", "bytes", "[I", true)
  | _ => ("RodBeam$Text", "ratio", "LRodBeam$Ratio;", true)
def tyX8 : Nat → FieldType := fun k => match k with
  | 0 => .int
  | 1 => .array .int
  | _ => .object "RodBeam$Ratio"
theorem nmX8 : ∀ a, a < 3 → ∀ b, b < 3 → a ≠ b → (TX8 a).2.1 ≠ (TX8 b).2.1 := by decide +kernel
theorem tyX8_ok : ∀ k, k < 3 → parseFieldDescriptor (TX8 k).2.2.1 = some (tyX8 k) := by decide +kernel
abbrev cX8_init : ByteArray := prog_10_method_1_code
def yX8_init : MethodName := ⟨RX8, "<init>", "()V"⟩
abbrev cX8_writeShare : ByteArray := prog_10_method_2_code
def yX8_writeShare : MethodName := ⟨RX8, "writeShare", "(LRodBeam$Share;)V"⟩
abbrev cX8_writeRatio : ByteArray := prog_10_method_3_code
def yX8_writeRatio : MethodName := ⟨RX8, "writeRatio", "(ZLRodBeam$Ratio;)V"⟩
abbrev cX8_writeWhole : ByteArray := prog_10_method_4_code
def yX8_writeWhole : MethodName := ⟨RX8, "writeWhole", "(LRodBeam$Whole;)V"⟩
abbrev cX8_write : ByteArray := prog_10_method_5_code
def yX8_write : MethodName := ⟨RX8, "write", "(C)V"⟩
def RX9 : String := "RodBeam$Walk"
def TX9 : u_T := fun k => match k with
  | 0 => ("RodBeam$Walk", "bent", "LRodBeam$Share;", true)
  | 1 => ("RodBeam$Walk", "reached", "LRodBeam$Share;", true)
  | 2 => ("RodBeam$Walk", "room", "[I", true)
  | 3 => ("RodBeam$Walk", "leastPush", "I", false)
  | 4 => ("RodBeam$Walk", "mostPush", "I", false)
  | _ => ("RodBeam$Walk", "startTwice", "J", false)
def tyX9 : Nat → FieldType := fun k => match k with
  | 0 => .object "RodBeam$Share"
  | 1 => .object "RodBeam$Share"
  | 2 => .array .int
  | 3 => .int
  | 4 => .int
  | _ => .long
theorem nmX9 : ∀ a, a < 6 → ∀ b, b < 6 → a ≠ b → (TX9 a).2.1 ≠ (TX9 b).2.1 := by decide +kernel
theorem tyX9_ok : ∀ k, k < 6 → parseFieldDescriptor (TX9 k).2.2.1 = some (tyX9 k) := by decide +kernel
abbrev cX9_init : ByteArray := prog_11_method_1_code
def yX9_init : MethodName := ⟨RX9, "<init>", "()V"⟩
abbrev cX9_arm : ByteArray := prog_11_method_2_code
def yX9_arm : MethodName := ⟨RX9, "arm", "(LRodBeam$Section;[I)V"⟩
abbrev cX9_reaches : ByteArray := prog_11_method_3_code
def yX9_reaches : MethodName := ⟨RX9, "reaches", "(I)Z"⟩
abbrev cX9_bearsOn : ByteArray := prog_11_method_4_code
def yX9_bearsOn : MethodName := ⟨RX9, "bearsOn", "(LRodBeam$Section;IIZ)Z"⟩
abbrev cX9_fill : ByteArray := prog_11_method_5_code
def yX9_fill : MethodName := ⟨RX9, "fill", "(LRodBeam$Section;IZ)V"⟩
def RX10 : String := "RodBeam$Whole"
def TX10 : u_T := fun k => match k with
  | _ => ("RodBeam$Whole", "digit", "[J", true)
def tyX10 : Nat → FieldType := fun k => match k with
  | _ => .array .long
theorem nmX10 : ∀ a, a < 1 → ∀ b, b < 1 → a ≠ b → (TX10 a).2.1 ≠ (TX10 b).2.1 := by decide +kernel
theorem tyX10_ok : ∀ k, k < 1 → parseFieldDescriptor (TX10 k).2.2.1 = some (tyX10 k) := by decide +kernel
abbrev cX10_init : ByteArray := prog_12_method_1_code
def yX10_init : MethodName := ⟨RX10, "<init>", "()V"⟩
abbrev cX10_put : ByteArray := prog_12_method_2_code
def yX10_put : MethodName := ⟨RX10, "put", "(J)V"⟩
abbrev cX10_copy : ByteArray := prog_12_method_3_code
def yX10_copy : MethodName := ⟨RX10, "copy", "(LRodBeam$Whole;)V"⟩
abbrev cX10_plus : ByteArray := prog_12_method_4_code
def yX10_plus : MethodName := ⟨RX10, "plus", "(LRodBeam$Whole;)V"⟩
abbrev cX10_product : ByteArray := prog_12_method_5_code
def yX10_product : MethodName := ⟨RX10, "product", "(LRodBeam$Whole;LRodBeam$Whole;)V"⟩
abbrev cX10_restBy : ByteArray := prog_12_method_6_code
def yX10_restBy : MethodName := ⟨RX10, "restBy", "(J)J"⟩
abbrev cX10_divide : ByteArray := prog_12_method_7_code
def yX10_divide : MethodName := ⟨RX10, "divide", "(J)V"⟩
abbrev cX10_isUnder : ByteArray := prog_12_method_8_code
def yX10_isUnder : MethodName := ⟨RX10, "isUnder", "(LRodBeam$Whole;)Z"⟩
def RX11 : String := "RodBeam"
def TX11 : u_T := fun k => match k with
  | 0 => ("RodBeam", "latest", "I", false)
  | 1 => ("RodBeam", "text", "LRodBeam$Text;", true)
  | 2 => ("RodBeam", "sections", "[LRodBeam$Section;", true)
  | 3 => ("RodBeam", "pairs", "LRodBeam$Pairs;", true)
  | 4 => ("RodBeam", "sizes", "LRodBeam$Sizes;", true)
  | 5 => ("RodBeam", "beam", "LRodBeam$Beam;", true)
  | 6 => ("RodBeam", "walk", "LRodBeam$Walk;", true)
  | _ => ("RodBeam", "chooser", "LRodBeam$Chooser;", true)
def tyX11 : Nat → FieldType := fun k => match k with
  | 0 => .int
  | 1 => .object "RodBeam$Text"
  | 2 => .array (.object "RodBeam$Section")
  | 3 => .object "RodBeam$Pairs"
  | 4 => .object "RodBeam$Sizes"
  | 5 => .object "RodBeam$Beam"
  | 6 => .object "RodBeam$Walk"
  | _ => .object "RodBeam$Chooser"
theorem nmX11 : ∀ a, a < 8 → ∀ b, b < 8 → a ≠ b → (TX11 a).2.1 ≠ (TX11 b).2.1 := by decide +kernel
theorem tyX11_ok : ∀ k, k < 8 → parseFieldDescriptor (TX11 k).2.2.1 = some (tyX11 k) := by decide +kernel
abbrev cX11_init : ByteArray := prog_1_method_1_code
def yX11_init : MethodName := ⟨RX11, "<init>", "()V"⟩
abbrev cX11_status : ByteArray := prog_1_method_2_code
def yX11_status : MethodName := ⟨RX11, "status", "()I"⟩
abbrev cX11_out : ByteArray := prog_1_method_3_code
def yX11_out : MethodName := ⟨RX11, "out", "(I)I"⟩
abbrev cX11_stone : ByteArray := prog_1_method_4_code
def yX11_stone : MethodName := ⟨RX11, "stone", "(III)Z"⟩
abbrev cX11_band : ByteArray := prog_1_method_5_code
def yX11_band : MethodName := ⟨RX11, "band", "(IIII)I"⟩
abbrev cX11_rod : ByteArray := prog_1_method_6_code
def yX11_rod : MethodName := ⟨RX11, "rod", "(III)I"⟩
abbrev cX11_change : ByteArray := prog_1_method_7_code
def yX11_change : MethodName := ⟨RX11, "change", "(III)Z"⟩
abbrev cX11_told : ByteArray := prog_1_method_8_code
def yX11_told : MethodName := ⟨RX11, "told", "(II)I"⟩
abbrev cX11_strength : ByteArray := prog_1_method_9_code
def yX11_strength : MethodName := ⟨RX11, "strength", "(II)I"⟩
abbrev cX11_width : ByteArray := prog_1_method_10_code
def yX11_width : MethodName := ⟨RX11, "width", "(II)I"⟩
abbrev cX11_bend : ByteArray := prog_1_method_11_code
def yX11_bend : MethodName := ⟨RX11, "bend", "(IIZ)I"⟩
abbrev cX11_cut : ByteArray := prog_1_method_12_code
def yX11_cut : MethodName := ⟨RX11, "cut", "(IIZ)I"⟩
abbrev cX11_borne : ByteArray := prog_1_method_13_code
def yX11_borne : MethodName := ⟨RX11, "borne", "(III)I"⟩
abbrev cX11_pair : ByteArray := prog_1_method_14_code
def yX11_pair : MethodName := ⟨RX11, "pair", "(II)I"⟩
abbrev cX11_clear : ByteArray := prog_1_method_15_code
def yX11_clear : MethodName := ⟨RX11, "clear", "()Z"⟩
abbrev cX11_safe : ByteArray := prog_1_method_16_code
def yX11_safe : MethodName := ⟨RX11, "safe", "(I)I"⟩
abbrev cX11_size : ByteArray := prog_1_method_17_code
def yX11_size : MethodName := ⟨RX11, "size", "(II)I"⟩
abbrev cX11_best : ByteArray := prog_1_method_18_code
def yX11_best : MethodName := ⟨RX11, "best", "(I)I"⟩
abbrev cX11_chosen : ByteArray := prog_1_method_19_code
def yX11_chosen : MethodName := ⟨RX11, "chosen", "(II)I"⟩
abbrev cX11_take : ByteArray := prog_1_method_20_code
def yX11_take : MethodName := ⟨RX11, "take", "(I)I"⟩
abbrev cX11_span : ByteArray := prog_1_method_21_code
def yX11_span : MethodName := ⟨RX11, "span", "(II)I"⟩
abbrev cX11_away : ByteArray := prog_1_method_22_code
def yX11_away : MethodName := ⟨RX11, "away", "()Z"⟩
abbrev cX11_hold : ByteArray := prog_1_method_23_code
def yX11_hold : MethodName := ⟨RX11, "hold", "(IZ)Z"⟩
abbrev cX11_load : ByteArray := prog_1_method_24_code
def yX11_load : MethodName := ⟨RX11, "load", "(III)I"⟩
abbrev cX11_times : ByteArray := prog_1_method_25_code
def yX11_times : MethodName := ⟨RX11, "times", "(II)I"⟩
abbrev cX11_factor : ByteArray := prog_1_method_26_code
def yX11_factor : MethodName := ⟨RX11, "factor", "()I"⟩
abbrev cX11_weakest : ByteArray := prog_1_method_27_code
def yX11_weakest : MethodName := ⟨RX11, "weakest", "()I"⟩
abbrev cX11_refuse : ByteArray := prog_1_method_28_code
def yX11_refuse : MethodName := ⟨RX11, "refuse", "(I)I"⟩
abbrev cX11_deny : ByteArray := prog_1_method_29_code
def yX11_deny : MethodName := ⟨RX11, "deny", "(I)Z"⟩
abbrev cX11_give : ByteArray := prog_1_method_30_code
def yX11_give : MethodName := ⟨RX11, "give", "(I)I"⟩
abbrev cX11_allow : ByteArray := prog_1_method_31_code
def yX11_allow : MethodName := ⟨RX11, "allow", "()Z"⟩
abbrev cX11_giveShare : ByteArray := prog_1_method_32_code
def yX11_giveShare : MethodName := ⟨RX11, "giveShare", "(LRodBeam$Share;)I"⟩
abbrev cX11_giveRatio : ByteArray := prog_1_method_33_code
def yX11_giveRatio : MethodName := ⟨RX11, "giveRatio", "(LRodBeam$Ratio;)I"⟩
abbrev cX11_isSection : ByteArray := prog_1_method_34_code
def yX11_isSection : MethodName := ⟨RX11, "isSection", "(I)Z"⟩
abbrev cX11_isRod : ByteArray := prog_1_method_35_code
def yX11_isRod : MethodName := ⟨RX11, "isRod", "(II)Z"⟩
abbrev cX11_isSpan : ByteArray := prog_1_method_36_code
def yX11_isSpan : MethodName := ⟨RX11, "isSpan", "(I)Z"⟩
abbrev cX11_isFromTo : ByteArray := prog_1_method_37_code
def yX11_isFromTo : MethodName := ⟨RX11, "isFromTo", "(III)Z"⟩
abbrev cX11_isNear : ByteArray := prog_1_method_38_code
def yX11_isNear : MethodName := ⟨RX11, "isNear", "(I)Z"⟩
abbrev cX11_walkTo : ByteArray := prog_1_method_39_code
def yX11_walkTo : MethodName := ⟨RX11, "walkTo", "(IIZ)I"⟩
abbrev cX11_bears : ByteArray := prog_1_method_40_code
def yX11_bears : MethodName := ⟨RX11, "bears", "(LRodBeam$Section;II)Z"⟩
abbrev cX11_forgetBests : ByteArray := prog_1_method_41_code
def yX11_forgetBests : MethodName := ⟨RX11, "forgetBests", "()V"⟩
abbrev cX11_carryOut : ByteArray := prog_1_method_42_code
def yX11_carryOut : MethodName := ⟨RX11, "carryOut", "(LRodBeam$Section;)I"⟩
abbrev cX11_commonDivisor : ByteArray := prog_1_method_43_code
def yX11_commonDivisor : MethodName := ⟨RX11, "commonDivisor", "(JJ)J"⟩
def RX12 : String := "RodBeamModel"
def TX12 : u_T := fun k => match k with
  | 0 => ("RodBeamModel", "status", "I", false)
  | 1 => ("RodBeamModel", "mem", "[I", true)
  | 2 => ("RodBeamModel", "top", "I", false)
  | 3 => ("RodBeamModel", "left", "[I", true)
  | 4 => ("RodBeamModel", "by", "[I", true)
  | 5 => ("RodBeamModel", "quotient", "[I", true)
  | 6 => ("RodBeamModel", "leftSize", "I", false)
  | 7 => ("RodBeamModel", "quotientSize", "I", false)
  | 8 => ("RodBeamModel", "output", "[I", true)
  | 9 => ("RodBeamModel", "outs", "I", false)
  | 10 => ("RodBeamModel", "f", "[I", true)
  | 11 => ("RodBeamModel", "z", "[I", true)
  | 12 => ("RodBeamModel", "bands", "[I", true)
  | 13 => ("RodBeamModel", "rods", "[I", true)
  | 14 => ("RodBeamModel", "area", "[I", true)
  | 15 => ("RodBeamModel", "widths", "[I", true)
  | 16 => ("RodBeamModel", "rodHeight", "[I", true)
  | 17 => ("RodBeamModel", "rodStrength", "[I", true)
  | 18 => ("RodBeamModel", "use", "[I", true)
  | 19 => ("RodBeamModel", "bendN", "J", false)
  | 20 => ("RodBeamModel", "bendD", "J", false)
  | 21 => ("RodBeamModel", "cutN", "J", false)
  | 22 => ("RodBeamModel", "cutD", "J", false)
  | 23 => ("RodBeamModel", "pairN", "[I", true)
  | 24 => ("RodBeamModel", "pairM", "[I", true)
  | 25 => ("RodBeamModel", "sizeStrength", "[I", true)
  | 26 => ("RodBeamModel", "sizePrice", "[I", true)
  | 27 => ("RodBeamModel", "pairs", "I", false)
  | 28 => ("RodBeamModel", "sizes", "I", false)
  | 29 => ("RodBeamModel", "chosen", "[I", true)
  | 30 => ("RodBeamModel", "least", "I", false)
  | 31 => ("RodBeamModel", "length", "[I", true)
  | 32 => ("RodBeamModel", "sectionOf", "[I", true)
  | 33 => ("RodBeamModel", "loads", "[I", true)
  | 34 => ("RodBeamModel", "loadPlace", "[I", true)
  | 35 => ("RodBeamModel", "loadWeight", "[I", true)
  | 36 => ("RodBeamModel", "isHeld", "[Z", true)
  | 37 => ("RodBeamModel", "spans", "I", false)
  | 38 => ("RodBeamModel", "fn", "J", false)
  | 39 => ("RodBeamModel", "fd", "J", false)
  | 40 => ("RodBeamModel", "timesN0", "J", false)
  | 41 => ("RodBeamModel", "timesN1", "J", false)
  | 42 => ("RodBeamModel", "timesN2", "J", false)
  | 43 => ("RodBeamModel", "timesD0", "J", false)
  | 44 => ("RodBeamModel", "timesD1", "J", false)
  | 45 => ("RodBeamModel", "timesD2", "J", false)
  | 46 => ("RodBeamModel", "freeN", "J", false)
  | 47 => ("RodBeamModel", "up", "I", false)
  | 48 => ("RodBeamModel", "low", "I", false)
  | 49 => ("RodBeamModel", "kept", "[I", true)
  | _ => ("RodBeamModel", "weak", "I", false)
def tyX12 : Nat → FieldType := fun k => match k with
  | 0 => .int
  | 1 => .array .int
  | 2 => .int
  | 3 => .array .int
  | 4 => .array .int
  | 5 => .array .int
  | 6 => .int
  | 7 => .int
  | 8 => .array .int
  | 9 => .int
  | 10 => .array .int
  | 11 => .array .int
  | 12 => .array .int
  | 13 => .array .int
  | 14 => .array .int
  | 15 => .array .int
  | 16 => .array .int
  | 17 => .array .int
  | 18 => .array .int
  | 19 => .long
  | 20 => .long
  | 21 => .long
  | 22 => .long
  | 23 => .array .int
  | 24 => .array .int
  | 25 => .array .int
  | 26 => .array .int
  | 27 => .int
  | 28 => .int
  | 29 => .array .int
  | 30 => .int
  | 31 => .array .int
  | 32 => .array .int
  | 33 => .array .int
  | 34 => .array .int
  | 35 => .array .int
  | 36 => .array .boolean
  | 37 => .int
  | 38 => .long
  | 39 => .long
  | 40 => .long
  | 41 => .long
  | 42 => .long
  | 43 => .long
  | 44 => .long
  | 45 => .long
  | 46 => .long
  | 47 => .int
  | 48 => .int
  | 49 => .array .int
  | _ => .int
theorem nmX12 : ∀ a, a < 51 → ∀ b, b < 51 → a ≠ b → (TX12 a).2.1 ≠ (TX12 b).2.1 := by decide +kernel
theorem tyX12_ok : ∀ k, k < 51 → parseFieldDescriptor (TX12 k).2.2.1 = some (tyX12 k) := by decide +kernel
abbrev cX12_init : ByteArray := prog_14_method_1_code
def yX12_init : MethodName := ⟨RX12, "<init>", "()V"⟩
abbrev cX12_status : ByteArray := prog_14_method_2_code
def yX12_status : MethodName := ⟨RX12, "status", "()I"⟩
abbrev cX12_is : ByteArray := prog_14_method_3_code
def yX12_is : MethodName := ⟨RX12, "is", "(I)Z"⟩
abbrev cX12_refuse : ByteArray := prog_14_method_4_code
def yX12_refuse : MethodName := ⟨RX12, "refuse", "(I)I"⟩
abbrev cX12_places : ByteArray := prog_14_method_5_code
def yX12_places : MethodName := ⟨RX12, "places", "(I)I"⟩
abbrev cX12_sign : ByteArray := prog_14_method_6_code
def yX12_sign : MethodName := ⟨RX12, "sign", "(I)I"⟩
abbrev cX12_room : ByteArray := prog_14_method_7_code
def yX12_room : MethodName := ⟨RX12, "room", "(I)I"⟩
abbrev cX12_done : ByteArray := prog_14_method_8_code
def yX12_done : MethodName := ⟨RX12, "done", "(IIZ)I"⟩
abbrev cX12_whole : ByteArray := prog_14_method_9_code
def yX12_whole : MethodName := ⟨RX12, "whole", "(J)I"⟩
abbrev cX12_copy : ByteArray := prog_14_method_10_code
def yX12_copy : MethodName := ⟨RX12, "copy", "(I)I"⟩
abbrev cX12_turned : ByteArray := prog_14_method_11_code
def yX12_turned : MethodName := ⟨RX12, "turned", "(I)I"⟩
abbrev cX12_compareSizes : ByteArray := prog_14_method_12_code
def yX12_compareSizes : MethodName := ⟨RX12, "compareSizes", "(II)I"⟩
abbrev cX12_sum : ByteArray := prog_14_method_14_code
def yX12_sum : MethodName := ⟨RX12, "sum", "(II)I"⟩
abbrev cX12_less : ByteArray := prog_14_method_15_code
def yX12_less : MethodName := ⟨RX12, "less", "(II)I"⟩
abbrev cX12_product : ByteArray := prog_14_method_16_code
def yX12_product : MethodName := ⟨RX12, "product", "(II)I"⟩
abbrev cX12_divide : ByteArray := prog_14_method_17_code
def yX12_divide : MethodName := ⟨RX12, "divide", "(II)V"⟩
abbrev cX12_divideShort : ByteArray := prog_14_method_18_code
def yX12_divideShort : MethodName := ⟨RX12, "divideShort", "(I)V"⟩
abbrev cX12_step : ByteArray := prog_14_method_19_code
def yX12_step : MethodName := ⟨RX12, "step", "(II)I"⟩
abbrev cX12_divided : ByteArray := prog_14_method_20_code
def yX12_divided : MethodName := ⟨RX12, "divided", "(II)I"⟩
abbrev cX12_common : ByteArray := prog_14_method_21_code
def yX12_common : MethodName := ⟨RX12, "common", "(II)I"⟩
abbrev cX12_put : ByteArray := prog_14_method_22_code
def yX12_put : MethodName := ⟨RX12, "put", "(II)V"⟩
abbrev cX12_out : ByteArray := prog_14_method_23_code
def yX12_out : MethodName := ⟨RX12, "out", "(I)I"⟩
abbrev cX12_tells0 : ByteArray := prog_14_method_24_code
def yX12_tells0 : MethodName := ⟨RX12, "tells0", "(I)V"⟩
abbrev cX12_tellsNumber : ByteArray := prog_14_method_25_code
def yX12_tellsNumber : MethodName := ⟨RX12, "tellsNumber", "(I)V"⟩
abbrev cX12_tells : ByteArray := prog_14_method_26_code
def yX12_tells : MethodName := ⟨RX12, "tells", "(II)I"⟩
abbrev cX12_isSection : ByteArray := prog_14_method_27_code
def yX12_isSection : MethodName := ⟨RX12, "isSection", "(I)Z"⟩
abbrev cX12_stone : ByteArray := prog_14_method_28_code
def yX12_stone : MethodName := ⟨RX12, "stone", "(III)Z"⟩
abbrev cX12_band : ByteArray := prog_14_method_29_code
def yX12_band : MethodName := ⟨RX12, "band", "(IIII)I"⟩
abbrev cX12_rod : ByteArray := prog_14_method_30_code
def yX12_rod : MethodName := ⟨RX12, "rod", "(III)I"⟩
abbrev cX12_isRod : ByteArray := prog_14_method_31_code
def yX12_isRod : MethodName := ⟨RX12, "isRod", "(II)Z"⟩
abbrev cX12_change : ByteArray := prog_14_method_32_code
def yX12_change : MethodName := ⟨RX12, "change", "(III)Z"⟩
abbrev cX12_asTold : ByteArray := prog_14_method_33_code
def yX12_asTold : MethodName := ⟨RX12, "asTold", "(I)V"⟩
abbrev cX12_pulls : ByteArray := prog_14_method_34_code
def yX12_pulls : MethodName := ⟨RX12, "pulls", "()I"⟩
abbrev cX12_greatest : ByteArray := prog_14_method_35_code
def yX12_greatest : MethodName := ⟨RX12, "greatest", "(I)I"⟩
abbrev cX12_told : ByteArray := prog_14_method_36_code
def yX12_told : MethodName := ⟨RX12, "told", "(II)I"⟩
abbrev cX12_strength : ByteArray := prog_14_method_37_code
def yX12_strength : MethodName := ⟨RX12, "strength", "(II)I"⟩
abbrev cX12_width : ByteArray := prog_14_method_38_code
def yX12_width : MethodName := ⟨RX12, "width", "(II)I"⟩
abbrev cX12_at : ByteArray := prog_14_method_39_code
def yX12_at : MethodName := ⟨RX12, "at", "(II)J"⟩
abbrev cX12_go : ByteArray := prog_14_method_40_code
def yX12_go : MethodName := ⟨RX12, "go", "(IJZ)V"⟩
abbrev cX12_found : ByteArray := prog_14_method_41_code
def yX12_found : MethodName := ⟨RX12, "found", "(JJJJ)V"⟩
abbrev cX12_isPush : ByteArray := prog_14_method_42_code
def yX12_isPush : MethodName := ⟨RX12, "isPush", "(II)Z"⟩
abbrev cX12_isNumber : ByteArray := prog_14_method_43_code
def yX12_isNumber : MethodName := ⟨RX12, "isNumber", "(I)Z"⟩
abbrev cX12_wrong : ByteArray := prog_14_method_44_code
def yX12_wrong : MethodName := ⟨RX12, "wrong", "(II)I"⟩
abbrev cX12_bend : ByteArray := prog_14_method_45_code
def yX12_bend : MethodName := ⟨RX12, "bend", "(IIZ)I"⟩
abbrev cX12_cut : ByteArray := prog_14_method_46_code
def yX12_cut : MethodName := ⟨RX12, "cut", "(IIZ)I"⟩
abbrev cX12_bears : ByteArray := prog_14_method_47_code
def yX12_bears : MethodName := ⟨RX12, "bears", "(III)Z"⟩
abbrev cX12_borne : ByteArray := prog_14_method_48_code
def yX12_borne : MethodName := ⟨RX12, "borne", "(III)I"⟩
abbrev cX12_pair : ByteArray := prog_14_method_49_code
def yX12_pair : MethodName := ⟨RX12, "pair", "(II)I"⟩
abbrev cX12_clear : ByteArray := prog_14_method_50_code
def yX12_clear : MethodName := ⟨RX12, "clear", "()Z"⟩
abbrev cX12_fails : ByteArray := prog_14_method_51_code
def yX12_fails : MethodName := ⟨RX12, "fails", "(I)I"⟩
abbrev cX12_safe : ByteArray := prog_14_method_52_code
def yX12_safe : MethodName := ⟨RX12, "safe", "(I)I"⟩
abbrev cX12_size : ByteArray := prog_14_method_53_code
def yX12_size : MethodName := ⟨RX12, "size", "(II)I"⟩
abbrev cX12_choose : ByteArray := prog_14_method_54_code
def yX12_choose : MethodName := ⟨RX12, "choose", "(I)Z"⟩
abbrev cX12_best : ByteArray := prog_14_method_55_code
def yX12_best : MethodName := ⟨RX12, "best", "(I)I"⟩
abbrev cX12_chosen : ByteArray := prog_14_method_56_code
def yX12_chosen : MethodName := ⟨RX12, "chosen", "(II)I"⟩
abbrev cX12_take : ByteArray := prog_14_method_57_code
def yX12_take : MethodName := ⟨RX12, "take", "(I)I"⟩
abbrev cX12_span : ByteArray := prog_14_method_58_code
def yX12_span : MethodName := ⟨RX12, "span", "(II)I"⟩
abbrev cX12_away : ByteArray := prog_14_method_59_code
def yX12_away : MethodName := ⟨RX12, "away", "()Z"⟩
abbrev cX12_hold : ByteArray := prog_14_method_60_code
def yX12_hold : MethodName := ⟨RX12, "hold", "(IZ)Z"⟩
abbrev cX12_isSpan : ByteArray := prog_14_method_61_code
def yX12_isSpan : MethodName := ⟨RX12, "isSpan", "(I)Z"⟩
abbrev cX12_load : ByteArray := prog_14_method_62_code
def yX12_load : MethodName := ⟨RX12, "load", "(III)I"⟩
abbrev cX12_strengthOf : ByteArray := prog_14_method_63_code
def yX12_strengthOf : MethodName := ⟨RX12, "strengthOf", "(IZ)V"⟩
abbrev cX12_hogOf : ByteArray := prog_14_method_64_code
def yX12_hogOf : MethodName := ⟨RX12, "hogOf", "(I)V"⟩
abbrev cX12_less3 : ByteArray := prog_14_method_65_code
def yX12_less3 : MethodName := ⟨RX12, "less3", "(JJJJ)Z"⟩
abbrev cX12_gather : ByteArray := prog_14_method_66_code
def yX12_gather : MethodName := ⟨RX12, "gather", "(II)V"⟩
abbrev cX12_timesOf : ByteArray := prog_14_method_67_code
def yX12_timesOf : MethodName := ⟨RX12, "timesOf", "(II)V"⟩
abbrev cX12_times : ByteArray := prog_14_method_68_code
def yX12_times : MethodName := ⟨RX12, "times", "(II)I"⟩
abbrev cX12_keep : ByteArray := prog_14_method_69_code
def yX12_keep : MethodName := ⟨RX12, "keep", "(II)V"⟩
abbrev cX12_held : ByteArray := prog_14_method_70_code
def yX12_held : MethodName := ⟨RX12, "held", "(I)I"⟩
abbrev cX12_finds : ByteArray := prog_14_method_71_code
def yX12_finds : MethodName := ⟨RX12, "finds", "()Z"⟩
abbrev cX12_factor : ByteArray := prog_14_method_72_code
def yX12_factor : MethodName := ⟨RX12, "factor", "()I"⟩
abbrev cX12_weakest : ByteArray := prog_14_method_73_code
def yX12_weakest : MethodName := ⟨RX12, "weakest", "()I"⟩
def RJ9 : String := "java/lang/Math"
abbrev cJ9_abs_0f7a4 : ByteArray := prog_15_method_59_code
def yJ9_abs_0f7a4 : MethodName := ⟨RJ9, "abs", "(I)I"⟩
abbrev cJ9_abs_067f4 : ByteArray := prog_15_method_61_code
def yJ9_abs_067f4 : MethodName := ⟨RJ9, "abs", "(J)J"⟩
abbrev cJ9_max_7cf53 : ByteArray := prog_15_method_65_code
def yJ9_max_7cf53 : MethodName := ⟨RJ9, "max", "(II)I"⟩
abbrev cJ9_max_f86c9 : ByteArray := prog_15_method_66_code
def yJ9_max_f86c9 : MethodName := ⟨RJ9, "max", "(JJ)J"⟩
abbrev cJ9_min_7cf53 : ByteArray := prog_15_method_69_code
def yJ9_min_7cf53 : MethodName := ⟨RJ9, "min", "(II)I"⟩
abbrev cJ9_min_f86c9 : ByteArray := prog_15_method_70_code
def yJ9_min_f86c9 : MethodName := ⟨RJ9, "min", "(JJ)J"⟩
def RJ10 : String := "java/lang/System"
def RJ7 : String := "java/util/Arrays"
abbrev cJ7_fill_d0a16 : ByteArray := prog_17_method_101_code
def yJ7_fill_d0a16 : MethodName := ⟨RJ7, "fill", "([JJ)V"⟩
abbrev cJ7_fill_53178 : ByteArray := prog_17_method_103_code
def yJ7_fill_53178 : MethodName := ⟨RJ7, "fill", "([II)V"⟩
def RL : String := "RodBeamLaw"
abbrev cL_law : ByteArray := code
def yL_law : MethodName := ⟨RL, "law", "([I)Z"⟩
abbrev vwCl : List vw_C := [(RX0, TX0, 12), (RX1, TX1, 8), (RX2, TX2, 3), (RX3, TX3, 5), (RX4, TX4, 18), (RX5, TX5, 2), (RX6, TX6, 3), (RX7, TX7, 5), (RX8, TX8, 3), (RX9, TX9, 6), (RX10, TX10, 1), (RX11, TX11, 8), (RX12, TX12, 51)]
theorem inX0 : ∀ w ∈ u_ws RX0 TX0 12, w ∈ lw_tbl := by decide +kernel
theorem inX1 : ∀ w ∈ u_ws RX1 TX1 8, w ∈ lw_tbl := by decide +kernel
theorem inX2 : ∀ w ∈ u_ws RX2 TX2 3, w ∈ lw_tbl := by decide +kernel
theorem inX3 : ∀ w ∈ u_ws RX3 TX3 5, w ∈ lw_tbl := by decide +kernel
theorem inX4 : ∀ w ∈ u_ws RX4 TX4 18, w ∈ lw_tbl := by decide +kernel
theorem inX5 : ∀ w ∈ u_ws RX5 TX5 2, w ∈ lw_tbl := by decide +kernel
theorem inX6 : ∀ w ∈ u_ws RX6 TX6 3, w ∈ lw_tbl := by decide +kernel
theorem inX7 : ∀ w ∈ u_ws RX7 TX7 5, w ∈ lw_tbl := by decide +kernel
theorem inX8 : ∀ w ∈ u_ws RX8 TX8 3, w ∈ lw_tbl := by decide +kernel
theorem inX9 : ∀ w ∈ u_ws RX9 TX9 6, w ∈ lw_tbl := by decide +kernel
theorem inX10 : ∀ w ∈ u_ws RX10 TX10 1, w ∈ lw_tbl := by decide +kernel
theorem inX11 : ∀ w ∈ u_ws RX11 TX11 8, w ∈ lw_tbl := by decide +kernel
theorem inX12 : ∀ w ∈ u_ws RX12 TX12 51, w ∈ lw_tbl := by decide +kernel
def fty (ci k : Nat) : FieldType := match ci with
  | 0 => tyX0 k
  | 1 => tyX1 k
  | 2 => tyX2 k
  | 3 => tyX3 k
  | 4 => tyX4 k
  | 5 => tyX5 k
  | 6 => tyX6 k
  | 7 => tyX7 k
  | 8 => tyX8 k
  | 9 => tyX9 k
  | 10 => tyX10 k
  | 11 => tyX11 k
  | _ => tyX12 k
end
section
/-! AN ABSTRACT MACHINE over pure numbers: every value is an Int with a tag (0 int, 1 long, 2 reference), the heap is a function
from (cell, place) to Int beside a list of shapes; cells are numbered as they are made. Fr: a frame's walk; Call: a method's contract. -/
abbrev AV : Type := Nat × Int
abbrev Shp : Type := List (Nat × Nat)
abbrev Mem : Type := Nat → Nat → Int
abbrev MM : Type := MethodName × ByteArray × Nat × Option FieldType
def inI (x : Int) : Prop := -2147483648 ≤ x ∧ x ≤ 2147483647
def inL (x : Int) : Prop := -9223372036854775808 ≤ x ∧ x ≤ 9223372036854775807
def rfv (φ : Nat → Nat) (b : Nat) (x : Int) : Value := if x = -2 then .ref b else if x < 0 then .null else .ref (φ x.toNat)
def toV (φ : Nat → Nat) (b : Nat) (v : AV) : Value := match v.1 with
  | 0 => .int (Int32.ofInt v.2)
  | 1 => .long (Int64.ofInt v.2)
  | _ => rfv φ b v.2
def okV (n : Nat) (v : AV) : Prop := match v.1 with
  | 0 => inI v.2
  | 1 => inL v.2
  | _ => v.2 < n
def ftag (t : FieldType) : Nat := match t with
  | .long => 1
  | .object _ => 2
  | .array _ => 2
  | _ => 0
def tyOk (n : Nat) (t : FieldType) (x : Int) : Prop := match t with
  | .boolean => x = 0 ∨ x = 1
  | .int => inI x
  | .long => inL x
  | .object _ => -1 ≤ x ∧ x < n
  | .array _ => -1 ≤ x ∧ x < n
  | _ => False
def kty (kd k : Nat) : FieldType := if kd < 13 then fty kd k else if kd = 20 then .int else if kd = 21 then .long else if kd = 22 then .boolean else .object ""
def Rng (K : Shp) (H : Mem) : Prop := ∀ (a : Nat) (q : Nat × Nat), K[a]? = some q → ∀ k, k < q.2 → tyOk K.length (kty q.1 k) (H a k)
def refE (φ : Nat → Nat) (x : Int) : Option Nat := if x < 0 then none else some (φ x.toNat)
def cellE (φ : Nat → Nat) (b : Nat) (aC : Nat → ClassId) (q : Nat × Nat) (f : Nat → Int) : va_E :=
  if q.1 < 13 then .inr (q.1, (List.range q.2).map fun k => toV φ b (ftag (fty q.1 k), f k))
  else if q.1 = 21 then .inl (aC 21, q.2, .inr (.inl fun j => Int64.ofInt (f j)))
  else if q.1 = 20 ∨ q.1 = 22 then .inl (aC q.1, q.2, .inl fun j => Int32.ofInt (f j))
  else .inl (aC q.1, q.2, .inr (.inr (.inr (.inr fun j => refE φ (f j)))))
def wsOf (φ : Nat → Nat) (b : Nat) (aC : Nat → ClassId) (K : Shp) (H : Mem) : va_W := K.mapIdx fun a q => (φ a, cellE φ b aC q (H a))
def tysOf (aC : Nat → ClassId) : List (ClassId × FieldType) := [(aC 20, .int), (aC 21, .long), (aC 22, .boolean), (aC 23, .object "RodBeam$Section"), (aC 24, .object "RodBeam$Span")]
def upA (H : Mem) (a : Nat) (f : Nat → Int) : Mem := fun x => if x = a then f else H x
def up1 (f : Nat → Int) (k : Nat) (x : Int) : Nat → Int := fun j => if j = k then x else f j
def lw_good : List Cond := lw_tbl.filter goodWord
def isNest (w : Cond) : Bool := match w with
  | .methodLinkNest _ _ _ _ => true
  | _ => false
def lw_nest : List Cond := lw_tbl.filter isNest
theorem ws_at {φ : Nat → Nat} {b : Nat} {aC : Nat → ClassId} {K : Shp} {H : Mem} {a : Nat} {q : Nat × Nat} (h : K[a]? = some q) : (wsOf φ b aC K H)[a]? = some (φ a, cellE φ b aC q (H a)) := by
  simp [wsOf, List.getElem?_mapIdx, h]
theorem ws_set {φ : Nat → Nat} {b : Nat} {aC : Nat → ClassId} {K : Shp} {H : Mem} {a : Nat} {q : Nat × Nat} {f : Nat → Int} (h : K[a]? = some q) : (wsOf φ b aC K H).set a (φ a, cellE φ b aC q f) = wsOf φ b aC K (upA H a f) := by
  apply List.ext_getElem?
  intro i
  by_cases hi : i = a
  · subst hi
    obtain ⟨hl, he⟩ := List.getElem?_eq_some_iff.mp h
    simp [wsOf, List.getElem?_mapIdx, upA, List.getElem?_set, hl, he]
  · simp [wsOf, List.getElem?_mapIdx, upA, List.getElem?_set, Ne.symm hi, hi]
theorem range_set {N k : Nat} {f : Nat → Value} {v : Value} : ((List.range N).map f).set k v = (List.range N).map fun j => if j = k then v else f j := by
  apply List.ext_getElem?
  intro i
  by_cases hi : i = k
  · subst hi
    by_cases hl : i < N
    · simp [List.getElem?_set, hl]
    · simp [List.getElem?_set, hl]
  · simp [List.getElem?_set, Ne.symm hi]
    cases h : (List.range N)[i]? with
    | none => rfl
    | some j =>
      have : j = i := by
        have := List.getElem?_eq_some_iff.mp h
        obtain ⟨h1, h2⟩ := this
        rw [List.getElem_range] at h2
        exact h2.symm
      subst this
      simp [hi]
/-- what holds of the machine where a method of ours runs -/
def Cx (M : MM) (sc : Option (Nat × (Nat → Int))) (p : Program) (s : State) (m : MethodId) (args : Array Value) (meth : Method) (c : Code) (base b : Nat) (D : va_G) (aC : Nat → ClassId) : Prop :=
  p.tables.exec = Jvm.exec ∧ c.code = M.2.1 ∧ meth.sig.returnType = M.2.2.2 ∧ c.maxLocals = M.2.2.1 ∧ s.vm.findClass M.1.cls = some m.cls ∧ (∀ w ∈ lw_good, w.before args s = true) ∧ (∀ w ∈ lw_nest, va_Nw w s) ∧
  va_K D vwCl (tysOf aC) s ∧ meth.locks = false ∧ meth.name = M.1.name ∧ base ≤ s.heap.size ∧
  (∀ (L : Nat) (xs : Nat → Int), sc = some (L, xs) → va_X b L (fun j => Int32.ofInt (xs j)) s s.heap ∧ b < s.heap.size ∧ b < base ∧ L < 2147483648 ∧ ∀ j, j < L → inI (xs j))
def Rp (base b : Nat) (D : va_G) (aC : Nat → ClassId) (φ : Nat → Nat) (K : Shp) (H : Mem) (Hp : Heap) : Prop :=
  va_P D vwCl (wsOf φ b aC K H) Hp ∧ va_D (fun q => base ≤ q) (wsOf φ b aC K H) ∧ Rng K H
def RetAt (M : MM) (pc : Nat) (r : Option AV) : Prop :=
  (∃ x, r = some (0, x) ∧ inI x ∧ decode M.2.1 pc = .ok (.ireturn, 1) ∧ (M.2.2.2 = some .int ∨ M.2.2.2 = some .boolean ∧ (x = 0 ∨ x = 1))) ∨
  (∃ x, r = some (1, x) ∧ inL x ∧ decode M.2.1 pc = .ok (.lreturn, 1) ∧ M.2.2.2 = some .long) ∨ (r = none ∧ decode M.2.1 pc = .ok (.return_, 1) ∧ M.2.2.2 = none)
def Ret (M : MM) (p : Program) (l : Launch) (e : Env) (R : Room) (s : State) (m : MethodId) (args : Array Value) (below : List Frame) (meth : Method) (c : Code) (base b : Nat) (D : va_G) (aC : Nat → ClassId) (n0 : Nat) (φ0 : Nat → Nat) (QM : State → Prop) (Q : Option AV → Shp → Mem → Prop) : Prop :=
  ∀ (r : Option AV) (K : Shp) (H : Mem) (φ : Nat → Nat) (Hp : Heap) (locs : List Loc) (cells slots pc : Nat) (ls : Array Slot), Q r K H → Rp base b D aC φ K H Hp → va_S (fun q => base ≤ q) s.heap Hp locs → cells ≤ R.cells → slots ≤ R.slots → n0 ≤ K.length → (∀ a, a < n0 → φ a = φ0 a) → RetAt M pc r →
    W p l e R s m args below meth c Hp locs cells slots QM (F0 m pc ls ((r.map (toV φ b)).toList))
/-- A FRAME of method M at pc, with room for d calls one in another, fc cells and fs slots still to be made: it comes to its end, with Q -/
def Fr (M : MM) (d fc fs : Nat) (sc : Option (Nat × (Nat → Int))) (pc : Nat) (ls : List (Nat × AV)) (st : List AV) (K : Shp) (H : Mem) (Q : Option AV → Shp → Mem → Prop) : Prop :=
  ∀ (p : Program) (l : Launch) (e : Env) (R : Room) (s : State) (m : MethodId) (args : Array Value) (below : List Frame) (meth : Method) (c : Code) (base b : Nat) (D : va_G) (aC : Nat → ClassId) (n0 : Nat) (φ0 φ : Nat → Nat) (Hp : Heap) (locs : List Loc) (cells slots : Nat) (lsA : Array Slot) (QM : State → Prop),
    Cx M sc p s m args meth c base b D aC → d ≤ R.frames → 40 * d ≤ R.locals → cells + fc ≤ R.cells → slots + fs ≤ R.slots →
    Rp base b D aC φ K H Hp → va_S (fun q => base ≤ q) s.heap Hp locs → lv_has lsA M.2.2.1 (ls.map fun q => (q.1, toV φ b q.2)) → (∀ q ∈ ls, okV K.length q.2) → (∀ v ∈ st, okV K.length v) →
    n0 ≤ K.length → (∀ a, a < n0 → φ a = φ0 a) → Ret M p l e R s m args below meth c base b D aC n0 φ0 QM Q →
    W p l e R s m args below meth c Hp locs cells slots QM (F0 m pc lsA (st.map (toV φ b)))
def rmOf (d mc ms : Nat) : Room := { frames := d, cells := mc, slots := ms, locals := 40 * d }
def wsM (M : MM) : List Cond := Cond.code M.1 M.2.1 M.2.2.1 M.2.2.2 :: lw_good
/-- what a method's start and end say -/
def PcM (base b : Nat) (D : va_G) (aC : Nat → ClassId) (φ : Nat → Nat) (args : List AV) (K : Shp) (H : Mem) : Array Value → State → Prop :=
  va_Pc (args.map (toV φ b)) (fun U => (∀ w ∈ lw_nest, va_Nw w U) ∧ va_K D vwCl (tysOf aC) U ∧ base ≤ U.heap.size ∧ Rp base b D aC φ K H U.heap ∧ ∀ v ∈ args, okV K.length v)
def QcM (base b : Nat) (D : va_G) (aC : Nat → ClassId) (φ : Nat → Nat) (K : Shp) (Q : Option AV → Shp → Mem → Prop) : Array Value → State → Outcome → State → Prop :=
  fun _ st oc t => (∃ (r : Option AV) (K' : Shp) (H' : Mem) (φ' : Nat → Nat), oc = .returned (r.map (toV φ' b)) ∧ (∀ v, r = some v → v.1 < 2 ∧ okV 0 v) ∧ Q r K' H' ∧ Rp base b D aC φ' K' H' t.heap ∧ K.length ≤ K'.length ∧ ∀ a, a < K.length → φ' a = φ a) ∧ va_F (fun q => base ≤ q) st t
/-- THE CONTRACT of M at arguments and heap -/
def Call (M : MM) (d mc ms : Nat) (args : List AV) (K : Shp) (H : Mem) (Q : Option AV → Shp → Mem → Prop) : Prop :=
  ∀ (l : Launch) (base b : Nat) (D : va_G) (aC : Nat → ClassId) (φ : Nat → Nat), Met l M.1 (wsM M) (rmOf d mc ms) (PcM base b D aC φ args K H) (QcM base b D aC φ K Q) mc ms (fun q => base ≤ q)
def argL : Nat → List AV → List (Nat × AV)
  | _, [] => []
  | i, v :: vs => (i, v) :: argL (if v.1 = 1 then i + 2 else i + 1) vs
theorem cat_toV (φ : Nat → Nat) (b : Nat) (v : AV) : (toV φ b v).category = if v.1 = 1 then 2 else 1 := by
  obtain ⟨t, x⟩ := v
  match t with
  | 0 => rfl
  | 1 => rfl
  | t + 2 =>
    show (rfv φ b x).category = _
    unfold rfv
    split
    · rfl
    · split <;> rfl
theorem argL_eq (φ : Nat → Nat) (b : Nat) (vs : List AV) : ∀ i, lv_args i (vs.map (toV φ b)) = (argL i vs).map fun q => (q.1, toV φ b q.2) := by
  induction vs with
  | nil => intro i; rfl
  | cons v vs ih =>
    intro i
    have hc := cat_toV φ b v
    by_cases h : v.1 = 1
    · rw [if_pos h] at hc
      simp [lv_args, argL, h, hc, ih]
    · rw [if_neg h] at hc
      simp [lv_args, argL, h, hc, ih]
theorem argL_mem (vs : List AV) : ∀ i q, q ∈ argL i vs → q.2 ∈ vs := by
  induction vs with
  | nil => intro i q h; cases h
  | cons v vs ih =>
    intro i q h
    rcases List.mem_cons.mp h with rfl | h
    · exact List.mem_cons_self
    · exact List.mem_cons_of_mem _ (ih _ _ h)
def wid (vs : List AV) : Nat := (vs.map fun v => if v.1 = 1 then 2 else 1).sum
theorem wid_eq (φ : Nat → Nat) (b : Nat) (vs : List AV) : (lg_sl (vs.map (toV φ b))).length = wid vs := by
  induction vs with
  | nil => rfl
  | cons v vs ih =>
    have hc := cat_toV φ b v
    by_cases h : v.1 = 1
    · rw [if_pos h] at hc
      simp [lg_sl, wid, h, hc] at ih ⊢
      omega
    · rw [if_neg h] at hc
      simp [lg_sl, wid, h, hc] at ih ⊢
      omega
end
section
/-! RULES: a frame one instruction on -/
theorem i_toInt {x : Int} (h : inI x) : (Int32.ofInt x).toInt = x := Int32.toInt_ofInt_of_le (by have := h.1; omega) (by have := h.2; omega)
theorem l_toInt {x : Int} (h : inL x) : (Int64.ofInt x).toInt = x := Int64.toInt_ofInt_of_le (by have := h.1; omega) (by have := h.2; omega)
theorem i_lt {x y : Int} (hx : inI x) (hy : inI y) : Int32.ofInt x < Int32.ofInt y ↔ x < y := by rw [Int32.lt_iff_toInt_lt, i_toInt hx, i_toInt hy]
theorem i_le {x y : Int} (hx : inI x) (hy : inI y) : Int32.ofInt x ≤ Int32.ofInt y ↔ x ≤ y := by rw [Int32.le_iff_toInt_le, i_toInt hx, i_toInt hy]
theorem i_eq {x y : Int} (hx : inI x) (hy : inI y) : Int32.ofInt x = Int32.ofInt y ↔ x = y := by rw [← Int32.toInt_inj, i_toInt hx, i_toInt hy]
theorem l_lt {x y : Int} (hx : inL x) (hy : inL y) : Int64.ofInt x < Int64.ofInt y ↔ x < y := by rw [Int64.lt_iff_toInt_lt, l_toInt hx, l_toInt hy]
theorem l_eq {x y : Int} (hx : inL x) (hy : inL y) : Int64.ofInt x = Int64.ofInt y ↔ x = y := by rw [← Int64.toInt_inj, l_toInt hx, l_toInt hy]
theorem i_zero : inI 0 := ⟨by decide, by decide⟩
theorem i_in {x : Int} {n : Nat} (hx : inI x) (h0 : 0 ≤ x) (h1 : x < n) : vp_in (Int32.ofInt x) n := by
  rw [vp_in_iff, i_toInt hx]
  exact ⟨h0, h1⟩
theorem i_clamp {x : Int} (hx : inI x) : (Int32.ofInt x).toNatClampNeg = x.toNat := by
  rw [← Int32.toNat_toInt, i_toInt hx]
section Rules
variable {M : MM} {d fc fs : Nat} {sc : Option (Nat × (Nat → Int))} {pc : Nat} {ls : List (Nat × AV)} {st : List AV} {K : Shp} {H : Mem} {Q : Option AV → Shp → Mem → Prop}
/-- a step that looks at the stack alone -/
theorem Fr.pure {pc' : Nat} {st1 st2 : List AV} (k : Fr M d fc fs sc pc' ls st2 K H Q) (ho : (∀ v ∈ st1, okV K.length v) → ∀ v ∈ st2, okV K.length v)
    (hw : ∀ {p : Program} {l : Launch} {e : Env} {R : Room} {s : State} {m : MethodId} {args : Array Value} {below : List Frame} {meth : Method} {c : Code} {Hp : Heap} {locs : List Loc} {cells slots : Nat} {QM : State → Prop} (φ : Nat → Nat) (b : Nat) (lsA : Array Slot), p.tables.exec = Jvm.exec → c.code = M.2.1 → s.vm.findClass M.1.cls = some m.cls → (∀ w ∈ lw_good, w.before args s = true) → (∀ v ∈ st1, okV K.length v) →
      W p l e R s m args below meth c Hp locs cells slots QM (F0 m pc' lsA (st2.map (toV φ b))) → W p l e R s m args below meth c Hp locs cells slots QM (F0 m pc lsA (st1.map (toV φ b)))) : Fr M d fc fs sc pc ls st1 K H Q := by
  intro p l e R s m args below meth c base b D aC n0 φ0 φ Hp locs cells slots lsA QM hC hR1 hR2 hc1 hc2 hP hS hl hlo hso hn hag hret
  exact hw φ b lsA hC.1 hC.2.1 hC.2.2.2.2.1 hC.2.2.2.2.2.1 hso (k p l e R s m args below meth c base b D aC n0 φ0 φ Hp locs cells slots lsA QM hC hR1 hR2 hc1 hc2 hP hS hl hlo (ho hso) hn hag hret)
theorem ok_push {n : Nat} {v : AV} {st : List AV} (hv : okV n v) (h : ∀ x ∈ st, okV n x) : ∀ x ∈ v :: st, okV n x := fun x hx => (List.mem_cons.mp hx).elim (fun e => e ▸ hv) (h x)
theorem ok_1 {n : Nat} {v : AV} {st : List AV} (h : ∀ x ∈ v :: st, okV n x) : okV n v ∧ ∀ x ∈ st, okV n x := ⟨h v List.mem_cons_self, fun x hx => h x (List.mem_cons_of_mem _ hx)⟩
theorem ok_2 {n : Nat} {v w : AV} {st : List AV} (h : ∀ x ∈ v :: w :: st, okV n x) : okV n v ∧ okV n w ∧ ∀ x ∈ st, okV n x := ⟨(ok_1 h).1, ok_1 (ok_1 h).2⟩
/-- constants -/
theorem r_iconst {x : Int} (hd : decode M.2.1 pc = .ok (.iconst x, 1)) (h1 : -2147483648 ≤ x) (h2 : x ≤ 2147483647) (k : Fr M d fc fs sc (pc + 1) ls ((0, x) :: st) K H Q) : Fr M d fc fs sc pc ls st K H Q :=
  Fr.pure k (ok_push ⟨h1, h2⟩) (fun φ b lsA hx hb _ _ _ w => lv_iconst hx hb hd rfl w)
theorem r_bipush {x : Int} (hd : decode M.2.1 pc = .ok (.bipush x, 2)) (h1 : -128 ≤ x) (h2 : x ≤ 127) (k : Fr M d fc fs sc (pc + 2) ls ((0, x) :: st) K H Q) : Fr M d fc fs sc pc ls st K H Q :=
  Fr.pure k (ok_push (⟨by omega, by omega⟩ : inI x)) (fun φ b lsA hx hb _ _ _ w => lv_bipush hx hb hd (by
    rw [← Int32.ofInt_int8ToInt, Int8.toInt_ofInt_of_le (by omega) (by omega)]) w)
theorem r_sipush {x : Int} (hd : decode M.2.1 pc = .ok (.sipush x, 3)) (h1 : -32768 ≤ x) (h2 : x ≤ 32767) (k : Fr M d fc fs sc (pc + 3) ls ((0, x) :: st) K H Q) : Fr M d fc fs sc pc ls st K H Q :=
  Fr.pure k (ok_push (⟨by omega, by omega⟩ : inI x)) (fun φ b lsA hx hb _ _ _ w => lv_sipush hx hb hd (by
    rw [← Int32.ofInt_int16ToInt, Int16.toInt_ofInt_of_le (by omega) (by omega)]) w)
theorem r_lconst0 (hd : decode M.2.1 pc = .ok (.lconst 0, 1)) (k : Fr M d fc fs sc (pc + 1) ls ((1, 0) :: st) K H Q) : Fr M d fc fs sc pc ls st K H Q :=
  Fr.pure k (ok_push (⟨by decide, by decide⟩ : inL 0)) (fun φ b lsA hx hb _ _ _ w => lv_lconst hx hb hd rfl w)
theorem r_lconst1 (hd : decode M.2.1 pc = .ok (.lconst 1, 1)) (k : Fr M d fc fs sc (pc + 1) ls ((1, 1) :: st) K H Q) : Fr M d fc fs sc pc ls st K H Q :=
  Fr.pure k (ok_push (⟨by decide, by decide⟩ : inL 1)) (fun φ b lsA hx hb _ _ _ w => lv_lconst hx hb hd rfl w)
theorem r_ldc {i : Nat} {x : Int} (hd : decode M.2.1 pc = .ok (.ldc i, 2)) (hw : Cond.constant M.1.cls i (Int32.ofInt x) ∈ lw_good) (h1 : -2147483648 ≤ x) (h2 : x ≤ 2147483647) (k : Fr M d fc fs sc (pc + 2) ls ((0, x) :: st) K H Q) : Fr M d fc fs sc pc ls st K H Q :=
  Fr.pure k (ok_push ⟨h1, h2⟩) (fun φ b lsA hx hb ho hts _ w => lv_ldc hx hb ho (hts _ hw) hd w)
theorem r_ldc2 {i : Nat} {x : Int} (hd : decode M.2.1 pc = .ok (.ldc2_w i, 3)) (hw : Cond.constantLong M.1.cls i (Int64.ofInt x) ∈ lw_good) (h1 : -9223372036854775808 ≤ x) (h2 : x ≤ 9223372036854775807) (k : Fr M d fc fs sc (pc + 3) ls ((1, x) :: st) K H Q) : Fr M d fc fs sc pc ls st K H Q :=
  Fr.pure k (ok_push ⟨h1, h2⟩) (fun φ b lsA hx hb ho hts _ w => lv_ldc2 hx hb ho (hts _ hw) hd w)
/-- int and long arithmetic -/
theorem r_iadd {x y : Int} (hd : decode M.2.1 pc = .ok (.iadd, 1)) (h : inI (x + y)) (k : Fr M d fc fs sc (pc + 1) ls ((0, x + y) :: st) K H Q) : Fr M d fc fs sc pc ls ((0, y) :: (0, x) :: st) K H Q :=
  Fr.pure k (fun o => ok_push h (ok_2 o).2.2) (fun φ b lsA hx hb _ _ _ w => lv_iadd hx hb hd (by
    rw [← Int32.ofInt_add]; exact w))
theorem r_isub {x y : Int} (hd : decode M.2.1 pc = .ok (.isub, 1)) (h : inI (x - y)) (k : Fr M d fc fs sc (pc + 1) ls ((0, x - y) :: st) K H Q) : Fr M d fc fs sc pc ls ((0, y) :: (0, x) :: st) K H Q :=
  Fr.pure k (fun o => ok_push h (ok_2 o).2.2) (fun φ b lsA hx hb _ _ _ w => lv_isub hx hb hd (by
    rw [← Int32.ofInt_sub]; exact w))
theorem r_imul {x y : Int} (hd : decode M.2.1 pc = .ok (.imul, 1)) (h : inI (x * y)) (k : Fr M d fc fs sc (pc + 1) ls ((0, x * y) :: st) K H Q) : Fr M d fc fs sc pc ls ((0, y) :: (0, x) :: st) K H Q :=
  Fr.pure k (fun o => ok_push h (ok_2 o).2.2) (fun φ b lsA hx hb _ _ _ w => lv_imul hx hb hd (by
    rw [← Int32.ofInt_mul]; exact w))
theorem r_ineg {x : Int} (hd : decode M.2.1 pc = .ok (.ineg, 1)) (h : inI (-x)) (k : Fr M d fc fs sc (pc + 1) ls ((0, -x) :: st) K H Q) : Fr M d fc fs sc pc ls ((0, x) :: st) K H Q :=
  Fr.pure k (fun o => ok_push h (ok_1 o).2) (fun φ b lsA hx hb _ _ _ w => lv_ineg hx hb hd (by
    rw [← Int32.ofInt_neg]; exact w))
theorem r_ladd {x y : Int} (hd : decode M.2.1 pc = .ok (.ladd, 1)) (h : inL (x + y)) (k : Fr M d fc fs sc (pc + 1) ls ((1, x + y) :: st) K H Q) : Fr M d fc fs sc pc ls ((1, y) :: (1, x) :: st) K H Q :=
  Fr.pure k (fun o => ok_push h (ok_2 o).2.2) (fun φ b lsA hx hb _ _ _ w => lv_ladd hx hb hd (by
    rw [← Int64.ofInt_add]; exact w))
theorem r_lsub {x y : Int} (hd : decode M.2.1 pc = .ok (.lsub, 1)) (h : inL (x - y)) (k : Fr M d fc fs sc (pc + 1) ls ((1, x - y) :: st) K H Q) : Fr M d fc fs sc pc ls ((1, y) :: (1, x) :: st) K H Q :=
  Fr.pure k (fun o => ok_push h (ok_2 o).2.2) (fun φ b lsA hx hb _ _ _ w => lv_lsub hx hb hd (by
    rw [← Int64.ofInt_sub]; exact w))
theorem r_lmul {x y : Int} (hd : decode M.2.1 pc = .ok (.lmul, 1)) (h : inL (x * y)) (k : Fr M d fc fs sc (pc + 1) ls ((1, x * y) :: st) K H Q) : Fr M d fc fs sc pc ls ((1, y) :: (1, x) :: st) K H Q :=
  Fr.pure k (fun o => ok_push h (ok_2 o).2.2) (fun φ b lsA hx hb _ _ _ w => lv_lmul hx hb hd (by
    rw [← Int64.ofInt_mul]; exact w))
theorem r_lneg {x : Int} (hd : decode M.2.1 pc = .ok (.lneg, 1)) (h : inL (-x)) (k : Fr M d fc fs sc (pc + 1) ls ((1, -x) :: st) K H Q) : Fr M d fc fs sc pc ls ((1, x) :: st) K H Q :=
  Fr.pure k (fun o => ok_push h (ok_1 o).2) (fun φ b lsA hx hb _ _ _ w => lv_lneg hx hb hd (by
    rw [← Int64.ofInt_neg]; exact w))
theorem i_ne0 {y : Int} (hy : inI y) (h : y ≠ 0) : ¬ Int32.ofInt y = 0 := fun q => h ((i_eq hy i_zero).mp q)
theorem l_ne0 {y : Int} (hy : inL y) (h : y ≠ 0) : ¬ Int64.ofInt y = 0 := fun q => h ((l_eq hy ⟨by decide, by decide⟩).mp q)
theorem i_div {x y : Int} (hx : inI x) (hy : inI y) : Int32.ofInt x / Int32.ofInt y = Int32.ofInt (x.tdiv y) := (Int32.ofInt_tdiv hx.1 hx.2 hy.1 hy.2).symm
theorem l_div {x y : Int} (hx : inL x) (hy : inL y) : Int64.ofInt x / Int64.ofInt y = Int64.ofInt (x.tdiv y) := (Int64.ofInt_tdiv hx.1 hx.2 hy.1 hy.2).symm
theorem i_rem {x y : Int} (hx : inI x) (hy : inI y) : Int32.ofInt x - Int32.ofInt x / Int32.ofInt y * Int32.ofInt y = Int32.ofInt (x.tmod y) := by
  rw [i_div hx hy, ← Int32.ofInt_mul, ← Int32.ofInt_sub, Int.tmod_def, Int.mul_comm]
theorem l_rem {x y : Int} (hx : inL x) (hy : inL y) : Int64.ofInt x - Int64.ofInt x / Int64.ofInt y * Int64.ofInt y = Int64.ofInt (x.tmod y) := by
  rw [l_div hx hy, ← Int64.ofInt_mul, ← Int64.ofInt_sub, Int.tmod_def, Int.mul_comm]
theorem r_idiv {x y : Int} (hd : decode M.2.1 pc = .ok (.idiv, 1)) (hy : y ≠ 0) (h : inI (x.tdiv y)) (k : Fr M d fc fs sc (pc + 1) ls ((0, x.tdiv y) :: st) K H Q) : Fr M d fc fs sc pc ls ((0, y) :: (0, x) :: st) K H Q :=
  Fr.pure k (fun o => ok_push h (ok_2 o).2.2) (fun φ b lsA hx hb _ _ o w => lv_idiv hx hb hd (i_ne0 (ok_2 o).1 hy) (by
    rw [i_div (ok_2 o).2.1 (ok_2 o).1]; exact w))
theorem r_irem {x y : Int} (hd : decode M.2.1 pc = .ok (.irem, 1)) (hy : y ≠ 0) (h : inI (x.tmod y)) (k : Fr M d fc fs sc (pc + 1) ls ((0, x.tmod y) :: st) K H Q) : Fr M d fc fs sc pc ls ((0, y) :: (0, x) :: st) K H Q :=
  Fr.pure k (fun o => ok_push h (ok_2 o).2.2) (fun φ b lsA hx hb _ _ o w => lv_irem hx hb hd (i_ne0 (ok_2 o).1 hy) (by
    rw [i_rem (ok_2 o).2.1 (ok_2 o).1]; exact w))
theorem r_ldiv {x y : Int} (hd : decode M.2.1 pc = .ok (.ldiv, 1)) (hy : y ≠ 0) (h : inL (x.tdiv y)) (k : Fr M d fc fs sc (pc + 1) ls ((1, x.tdiv y) :: st) K H Q) : Fr M d fc fs sc pc ls ((1, y) :: (1, x) :: st) K H Q :=
  Fr.pure k (fun o => ok_push h (ok_2 o).2.2) (fun φ b lsA hx hb _ _ o w => lv_ldiv hx hb hd (l_ne0 (ok_2 o).1 hy) (by
    rw [l_div (ok_2 o).2.1 (ok_2 o).1]; exact w))
theorem r_lrem {x y : Int} (hd : decode M.2.1 pc = .ok (.lrem, 1)) (hy : y ≠ 0) (h : inL (x.tmod y)) (k : Fr M d fc fs sc (pc + 1) ls ((1, x.tmod y) :: st) K H Q) : Fr M d fc fs sc pc ls ((1, y) :: (1, x) :: st) K H Q :=
  Fr.pure k (fun o => ok_push h (ok_2 o).2.2) (fun φ b lsA hx hb _ _ o w => lv_lrem hx hb hd (l_ne0 (ok_2 o).1 hy) (by
    rw [l_rem (ok_2 o).2.1 (ok_2 o).1]; exact w))
theorem r_i2l {x : Int} (hd : decode M.2.1 pc = .ok (.i2l, 1)) (k : Fr M d fc fs sc (pc + 1) ls ((1, x) :: st) K H Q) : Fr M d fc fs sc pc ls ((0, x) :: st) K H Q :=
  Fr.pure k (fun o => ok_push (by have h : inI x := (ok_1 o).1; exact ⟨by have := h.1; omega, by have := h.2; omega⟩ : inL x) (ok_1 o).2) (fun φ b lsA hx hb _ _ o w => lv_i2l hx hb hd (by
    have h : inI x := (ok_1 o).1
    rw [← Int64.ofInt_int32ToInt, i_toInt h]) w)
theorem r_l2i {x : Int} (hd : decode M.2.1 pc = .ok (.l2i, 1)) (h : inI x) (k : Fr M d fc fs sc (pc + 1) ls ((0, x) :: st) K H Q) : Fr M d fc fs sc pc ls ((1, x) :: st) K H Q :=
  Fr.pure k (fun o => ok_push h (ok_1 o).2) (fun φ b lsA hx hb _ _ o w => lv_l2i hx hb hd (by rw [Int64.toInt32_ofInt]) w)
theorem r_i2c {x : Int} (hd : decode M.2.1 pc = .ok (.i2c, 1)) (h0 : 0 ≤ x) (h1 : x < 65536) (k : Fr M d fc fs sc (pc + 1) ls ((0, x) :: st) K H Q) : Fr M d fc fs sc pc ls ((0, x) :: st) K H Q :=
  Fr.pure k (fun o => o) (fun φ b lsA hx hb _ _ o w => lv_i2c hx hb hd (by
    obtain ⟨n, rfl⟩ := Int.eq_ofNat_of_zero_le h0
    have e : Int32.ofInt (n : Int) = nI n := Int32.ofInt_eq_ofNat
    rw [pk_char, e, pk_tn (by omega), Nat.mod_eq_of_lt (by omega)]) w)
/-- the stack -/
theorem cat1 {φ : Nat → Nat} {b : Nat} {v : AV} (h : v.1 ≠ 1) : (toV φ b v).category = 1 := by rw [cat_toV, if_neg h]
theorem r_dup {v : AV} (hd : decode M.2.1 pc = .ok (.dup, 1)) (h : v.1 ≠ 1) (k : Fr M d fc fs sc (pc + 1) ls (v :: v :: st) K H Q) : Fr M d fc fs sc pc ls (v :: st) K H Q :=
  Fr.pure k (fun o => ok_push (ok_1 o).1 o) (fun φ b lsA hx hb _ _ _ w => lv_dup hx hb hd (cat1 h) w)
theorem r_dup2 {v w : AV} (hd : decode M.2.1 pc = .ok (.dup2, 1)) (h : v.1 ≠ 1) (h' : w.1 ≠ 1) (k : Fr M d fc fs sc (pc + 1) ls (v :: w :: v :: w :: st) K H Q) : Fr M d fc fs sc pc ls (v :: w :: st) K H Q :=
  Fr.pure k (fun o => ok_push (ok_2 o).1 (ok_push (ok_2 o).2.1 o)) (fun φ b lsA hx hb _ _ _ w => lv_dup2_11 hx hb hd (cat1 h) (cat1 h') w)
theorem r_pop {v : AV} (hd : decode M.2.1 pc = .ok (.pop, 1)) (h : v.1 ≠ 1) (k : Fr M d fc fs sc (pc + 1) ls st K H Q) : Fr M d fc fs sc pc ls (v :: st) K H Q :=
  Fr.pure k (fun o => (ok_1 o).2) (fun φ b lsA hx hb _ _ _ w => lv_pop hx hb hd (cat1 h) w)
theorem r_goto {off : Int} {tgt : Nat} (hd : decode M.2.1 pc = .ok (.goto off, 3)) (ht : (pc : Int) + off = (tgt : Int)) (k : Fr M d fc fs sc tgt ls st K H Q) : Fr M d fc fs sc pc ls st K H Q :=
  Fr.pure k (fun o => o) (fun φ b lsA hx hb _ _ _ w => lv_goto hx hb hd ht w)
end Rules
end
section
/-! RULES, second part: locals, branches, fields, arrays -/
section Rules2
variable {M : MM} {d fc fs : Nat} {sc : Option (Nat × (Nat → Int))} {pc : Nat} {ls : List (Nat × AV)} {st : List AV} {K : Shp} {H : Mem} {Q : Option AV → Shp → Mem → Prop}
theorem lv_mem {φ : Nat → Nat} {b nL : Nat} {lsA : Array Slot} {ls : List (Nat × AV)} {i : Nat} {v : AV} (h : lv_has lsA nL (ls.map fun q => (q.1, toV φ b q.2))) (hm : (i, v) ∈ ls) : lsA[i]? = some (.val (toV φ b v)) :=
  h.2.2 (i, toV φ b v) (List.mem_map.mpr ⟨(i, v), hm, rfl⟩)
/-- a load: i has been read -/
theorem Fr.load {pc' i : Nat} {v : AV} (hm : (i, v) ∈ ls) (k : Fr M d fc fs sc pc' ls (v :: st) K H Q)
    (hw : ∀ {p : Program} {l : Launch} {e : Env} {R : Room} {s : State} {m : MethodId} {args : Array Value} {below : List Frame} {meth : Method} {c : Code} {Hp : Heap} {locs : List Loc} {cells slots : Nat} {QM : State → Prop} (φ : Nat → Nat) (b : Nat) (lsA : Array Slot), p.tables.exec = Jvm.exec → c.code = M.2.1 → lsA[i]? = some (.val (toV φ b v)) →
      W p l e R s m args below meth c Hp locs cells slots QM (F0 m pc' lsA (toV φ b v :: st.map (toV φ b))) → W p l e R s m args below meth c Hp locs cells slots QM (F0 m pc lsA (st.map (toV φ b)))) : Fr M d fc fs sc pc ls st K H Q := by
  intro p l e R s m args below meth c base b D aC n0 φ0 φ Hp locs cells slots lsA QM hC hR1 hR2 hc1 hc2 hP hS hl hlo hso hn hag hret
  exact hw φ b lsA hC.1 hC.2.1 (lv_mem hl hm) (k p l e R s m args below meth c base b D aC n0 φ0 φ Hp locs cells slots lsA QM hC hR1 hR2 hc1 hc2 hP hS hl hlo (ok_push (hlo _ hm) hso) hn hag hret)
theorem mem_at {α : Type} {l : List α} {j : Nat} {x : α} (h : l[j]? = some x) : x ∈ l := List.mem_of_getElem? h
theorem r_iload {i : Nat} {x : Int} (j : Nat) (hd : decode M.2.1 pc = .ok (.iload i, 2)) (hm : ls[j]? = some (i, (0, x))) (k : Fr M d fc fs sc (pc + 2) ls ((0, x) :: st) K H Q) : Fr M d fc fs sc pc ls st K H Q :=
  Fr.load (mem_at hm) k fun φ b lsA hx hb hl w => lv_iload hx hb hd hl w
theorem r_iload_n {n : Fin 4} {i : Nat} {x : Int} (j : Nat) (hd : decode M.2.1 pc = .ok (.iload_n n, 1)) (hi : (n : Nat) = i) (hm : ls[j]? = some (i, (0, x))) (k : Fr M d fc fs sc (pc + 1) ls ((0, x) :: st) K H Q) : Fr M d fc fs sc pc ls st K H Q :=
  Fr.load (mem_at hm) k fun φ b lsA hx hb hl w => lv_iload_n hx hb hd hi hl w
theorem r_lload {i : Nat} {x : Int} (j : Nat) (hd : decode M.2.1 pc = .ok (.lload i, 2)) (hm : ls[j]? = some (i, (1, x))) (k : Fr M d fc fs sc (pc + 2) ls ((1, x) :: st) K H Q) : Fr M d fc fs sc pc ls st K H Q :=
  Fr.load (mem_at hm) k fun φ b lsA hx hb hl w => lv_lload hx hb hd hl w
theorem r_lload_n {n : Fin 4} {i : Nat} {x : Int} (j : Nat) (hd : decode M.2.1 pc = .ok (.lload_n n, 1)) (hi : (n : Nat) = i) (hm : ls[j]? = some (i, (1, x))) (k : Fr M d fc fs sc (pc + 1) ls ((1, x) :: st) K H Q) : Fr M d fc fs sc pc ls st K H Q :=
  Fr.load (mem_at hm) k fun φ b lsA hx hb hl w => lv_lload_n hx hb hd hi hl w
theorem r_aload {i : Nat} {x : Int} (j : Nat) (hd : decode M.2.1 pc = .ok (.aload i, 2)) (hm : ls[j]? = some (i, (2, x))) (k : Fr M d fc fs sc (pc + 2) ls ((2, x) :: st) K H Q) : Fr M d fc fs sc pc ls st K H Q :=
  Fr.load (mem_at hm) k fun φ b lsA hx hb hl w => by
    change lsA[i]? = some (.val (rfv φ b x)) at hl
    change W _ _ _ _ _ _ _ _ _ _ _ _ _ _ _ (F0 _ _ _ (rfv φ b x :: _)) at w
    unfold rfv at hl w
    split at hl
    · rw [if_pos (by assumption)] at w; exact lv_aload hx hb hd hl w
    · rw [if_neg (by assumption)] at w
      split at hl
      · rw [if_pos (by assumption)] at w; exact lv_aloadN hx hb hd hl w
      · rw [if_neg (by assumption)] at w; exact lv_aload hx hb hd hl w
theorem r_aload_n {n : Fin 4} {i : Nat} {x : Int} (j : Nat) (hd : decode M.2.1 pc = .ok (.aload_n n, 1)) (hi : (n : Nat) = i) (hm : ls[j]? = some (i, (2, x))) (k : Fr M d fc fs sc (pc + 1) ls ((2, x) :: st) K H Q) : Fr M d fc fs sc pc ls st K H Q :=
  Fr.load (mem_at hm) k fun φ b lsA hx hb hl w => by
    change lsA[i]? = some (.val (rfv φ b x)) at hl
    change W _ _ _ _ _ _ _ _ _ _ _ _ _ _ _ (F0 _ _ _ (rfv φ b x :: _)) at w
    unfold rfv at hl w
    split at hl
    · rw [if_pos (by assumption)] at w; exact lv_aload_n hx hb hd hi hl w
    · rw [if_neg (by assumption)] at w
      split at hl
      · rw [if_pos (by assumption)] at w; exact lv_aload_nN hx hb hd hi hl w
      · rw [if_neg (by assumption)] at w; exact lv_aload_n hx hb hd hi hl w
/-- what stays of the locals behind a store at i -/
def cut1 (i : Nat) (ls : List (Nat × AV)) : List (Nat × AV) := ls.filter fun q => !(q.1 == i) && !(q.1 + 1 == i && q.2.1 == 1)
def cut2 (i : Nat) (ls : List (Nat × AV)) : List (Nat × AV) := ls.filter fun q => !(q.1 == i) && (!(q.1 == i + 1) && !(q.1 + 1 == i && q.2.1 == 1))
theorem cat2 (φ : Nat → Nat) (b : Nat) (v : AV) : ((toV φ b v).category == 2) = (v.1 == 1) := by
  rw [cat_toV]
  by_cases h : v.1 = 1
  · simp [h]
  · simp [h]
theorem cut1_eq (φ : Nat → Nat) (b i : Nat) (v : AV) (ls : List (Nat × AV)) : (i, toV φ b v) :: (ls.map fun q => (q.1, toV φ b q.2)).filter (fun q => !(q.1 == i) && !(q.1 + 1 == i && q.2.category == 2)) = ((i, v) :: cut1 i ls).map fun q => (q.1, toV φ b q.2) := by
  simp only [cut1, List.map_cons, List.filter_map, Function.comp_def, cat2]
theorem cut2_eq (φ : Nat → Nat) (b i : Nat) (v : AV) (ls : List (Nat × AV)) : (i, toV φ b v) :: (ls.map fun q => (q.1, toV φ b q.2)).filter (fun q => !(q.1 == i) && (!(q.1 == i + 1) && !(q.1 + 1 == i && q.2.category == 2))) = ((i, v) :: cut2 i ls).map fun q => (q.1, toV φ b q.2) := by
  simp only [cut2, List.map_cons, List.filter_map, Function.comp_def, cat2]
theorem Fr.store {pc' i : Nat} {v : AV} {ls' : List (Nat × AV)} (cut : Nat → List (Nat × AV) → List (Nat × AV)) (hcut : ∀ q, q ∈ cut i ls → q ∈ ls) (he : (i, v) :: cut i ls = ls') (k : Fr M d fc fs sc pc' ls' st K H Q)
    (hw : ∀ {p : Program} {l : Launch} {e : Env} {R : Room} {s : State} {m : MethodId} {args : Array Value} {below : List Frame} {meth : Method} {c : Code} {Hp : Heap} {locs : List Loc} {cells slots : Nat} {QM : State → Prop} (φ : Nat → Nat) (b : Nat) (lsA : Array Slot), p.tables.exec = Jvm.exec → c.code = M.2.1 → lv_has lsA M.2.2.1 (ls.map fun q => (q.1, toV φ b q.2)) →
      (∀ lsB : Array Slot, lv_has lsB M.2.2.1 (((i, v) :: cut i ls).map fun q => (q.1, toV φ b q.2)) → W p l e R s m args below meth c Hp locs cells slots QM (F0 m pc' lsB (st.map (toV φ b)))) → W p l e R s m args below meth c Hp locs cells slots QM (F0 m pc lsA (toV φ b v :: st.map (toV φ b)))) : Fr M d fc fs sc pc ls (v :: st) K H Q := by
  intro p l e R s m args below meth c base b D aC n0 φ0 φ Hp locs cells slots lsA QM hC hR1 hR2 hc1 hc2 hP hS hl hlo hso hn hag hret
  subst he
  exact hw φ b lsA hC.1 hC.2.1 hl fun lsB hlB => k p l e R s m args below meth c base b D aC n0 φ0 φ Hp locs cells slots lsB QM hC hR1 hR2 hc1 hc2 hP hS hlB (fun q hq => (List.mem_cons.mp hq).elim (fun e => by rw [e]; exact (ok_1 hso).1) (fun h => hlo q (hcut q h))) (ok_1 hso).2 hn hag hret
theorem cut1_in (i : Nat) (ls : List (Nat × AV)) : ∀ q, q ∈ cut1 i ls → q ∈ ls := fun _ h => (List.mem_filter.mp h).1
theorem cut2_in (i : Nat) (ls : List (Nat × AV)) : ∀ q, q ∈ cut2 i ls → q ∈ ls := fun _ h => (List.mem_filter.mp h).1
theorem r_istore {i : Nat} {x : Int} {ls' : List (Nat × AV)} (hd : decode M.2.1 pc = .ok (.istore i, 2)) (hn : i < M.2.2.1) (he : (i, (0, x)) :: cut1 i ls = ls') (k : Fr M d fc fs sc (pc + 2) ls' st K H Q) : Fr M d fc fs sc pc ls ((0, x) :: st) K H Q :=
  Fr.store cut1 (cut1_in i ls) he k fun φ b lsA hx hb hl w => lv_istore hx hb hd hl hn (cut1_eq φ b i (0, x) ls) w
theorem r_istore_n {n : Fin 4} {i : Nat} {x : Int} {ls' : List (Nat × AV)} (hd : decode M.2.1 pc = .ok (.istore_n n, 1)) (hi : (n : Nat) = i) (hn : i < M.2.2.1) (he : (i, (0, x)) :: cut1 i ls = ls') (k : Fr M d fc fs sc (pc + 1) ls' st K H Q) : Fr M d fc fs sc pc ls ((0, x) :: st) K H Q :=
  Fr.store cut1 (cut1_in i ls) he k fun φ b lsA hx hb hl w => lv_istore_n hx hb hd hi hl hn (cut1_eq φ b i (0, x) ls) w
theorem r_lstore {i : Nat} {x : Int} {ls' : List (Nat × AV)} (hd : decode M.2.1 pc = .ok (.lstore i, 2)) (hn : i + 1 < M.2.2.1) (he : (i, (1, x)) :: cut2 i ls = ls') (k : Fr M d fc fs sc (pc + 2) ls' st K H Q) : Fr M d fc fs sc pc ls ((1, x) :: st) K H Q :=
  Fr.store cut2 (cut2_in i ls) he k fun φ b lsA hx hb hl w => lv_lstore hx hb hd hl hn (cut2_eq φ b i (1, x) ls) w
theorem r_lstore_n {n : Fin 4} {i : Nat} {x : Int} {ls' : List (Nat × AV)} (hd : decode M.2.1 pc = .ok (.lstore_n n, 1)) (hi : (n : Nat) = i) (hn : i + 1 < M.2.2.1) (he : (i, (1, x)) :: cut2 i ls = ls') (k : Fr M d fc fs sc (pc + 1) ls' st K H Q) : Fr M d fc fs sc pc ls ((1, x) :: st) K H Q :=
  Fr.store cut2 (cut2_in i ls) he k fun φ b lsA hx hb hl w => lv_lstore_n hx hb hd hi hl hn (cut2_eq φ b i (1, x) ls) w
theorem r_astore {i : Nat} {x : Int} {ls' : List (Nat × AV)} (hd : decode M.2.1 pc = .ok (.astore i, 2)) (hn : i < M.2.2.1) (he : (i, (2, x)) :: cut1 i ls = ls') (k : Fr M d fc fs sc (pc + 2) ls' st K H Q) : Fr M d fc fs sc pc ls ((2, x) :: st) K H Q :=
  Fr.store cut1 (cut1_in i ls) he k fun φ b lsA hx hb hl w => by
    have e := cut1_eq φ b i (2, x) ls
    change W _ _ _ _ _ _ _ _ _ _ _ _ _ _ _ (F0 _ _ _ (rfv φ b x :: _))
    change (i, rfv φ b x) :: _ = _ at e
    unfold rfv at e ⊢
    split
    · rw [if_pos (by assumption)] at e; exact lv_astore hx hb hd hl hn e w
    · rw [if_neg (by assumption)] at e
      split
      · rw [if_pos (by assumption)] at e; exact lv_astoreN hx hb hd hl hn e w
      · rw [if_neg (by assumption)] at e; exact lv_astore hx hb hd hl hn e w
theorem r_astore_n {n : Fin 4} {i : Nat} {x : Int} {ls' : List (Nat × AV)} (hd : decode M.2.1 pc = .ok (.astore_n n, 1)) (hi : (n : Nat) = i) (hn : i < M.2.2.1) (he : (i, (2, x)) :: cut1 i ls = ls') (k : Fr M d fc fs sc (pc + 1) ls' st K H Q) : Fr M d fc fs sc pc ls ((2, x) :: st) K H Q :=
  Fr.store cut1 (cut1_in i ls) he k fun φ b lsA hx hb hl w => by
    have e := cut1_eq φ b i (2, x) ls
    change W _ _ _ _ _ _ _ _ _ _ _ _ _ _ _ (F0 _ _ _ (rfv φ b x :: _))
    change (i, rfv φ b x) :: _ = _ at e
    unfold rfv at e ⊢
    split
    · rw [if_pos (by assumption)] at e; exact lv_astore_n hx hb hd hi hl hn e w
    · rw [if_neg (by assumption)] at e
      split
      · rw [if_pos (by assumption)] at e; exact lv_astore_nN hx hb hd hi hl hn e w
      · rw [if_neg (by assumption)] at e; exact lv_astore_n hx hb hd hi hl hn e w
theorem r_iinc {i : Nat} {n x : Int} {ls' : List (Nat × AV)} (j : Nat) (hd : decode M.2.1 pc = .ok (.iinc i n, 3)) (hn : i < M.2.2.1) (hm : ls[j]? = some (i, (0, x))) (h : inI (x + n)) (he : (i, (0, x + n)) :: cut1 i ls = ls') (k : Fr M d fc fs sc (pc + 3) ls' st K H Q) : Fr M d fc fs sc pc ls st K H Q := by
  intro p l e R s m args below meth c base b D aC n0 φ0 φ Hp locs cells slots lsA QM hC hR1 hR2 hc1 hc2 hP hS hl hlo hso hn' hag hret
  subst he
  have hk : (ls.map fun q => (q.1, toV φ b q.2))[j]? = some (i, .int (Int32.ofInt x)) := by rw [List.getElem?_map, hm]; rfl
  exact lv_iinc hC.1 hC.2.1 hd hl hk (Int32.ofInt_add x n).symm hn (cut1_eq φ b i (0, x + n) ls) fun lsB hlB => k p l e R s m args below meth c base b D aC n0 φ0 φ Hp locs cells slots lsB QM hC hR1 hR2 hc1 hc2 hP hS hlB (fun q hq => (List.mem_cons.mp hq).elim (fun e => by rw [e]; exact h) (fun h => hlo q (cut1_in i ls q h))) hso hn' hag hret
/-- fewer locals, in any order -/
theorem Fr.fewer {ls' : List (Nat × AV)} (ks : List Nat) (he : ks.filterMap (fun k => ls[k]?) = ls') (k : Fr M d fc fs sc pc ls' st K H Q) : Fr M d fc fs sc pc ls st K H Q := by
  intro p l e R s m args below meth c base b D aC n0 φ0 φ Hp locs cells slots lsA QM hC hR1 hR2 hc1 hc2 hP hS hl hlo hso hn' hag hret
  have hin : ∀ q, q ∈ ls' → q ∈ ls := by
    intro q hq
    rw [← he] at hq
    obtain ⟨i, -, hi⟩ := List.mem_filterMap.mp hq
    exact List.mem_of_getElem? hi
  refine k p l e R s m args below meth c base b D aC n0 φ0 φ Hp locs cells slots lsA QM hC hR1 hR2 hc1 hc2 hP hS ⟨hl.1, hl.2.1, fun q hq => ?_⟩ (fun q hq => hlo q (hin q hq)) hso hn' hag hret
  obtain ⟨q0, h1, h2⟩ := List.mem_map.mp hq
  exact hl.2.2 q (List.mem_map.mpr ⟨q0, hin q0 h1, h2⟩)
/-- what may be taken as known of a frame's numbers -/
theorem Fr.know (k : (∀ q ∈ ls, okV K.length q.2) → Rng K H → Fr M d fc fs sc pc ls st K H Q) : Fr M d fc fs sc pc ls st K H Q := by
  intro p l e R s m args below meth c base b D aC n0 φ0 φ Hp locs cells slots lsA QM hC hR1 hR2 hc1 hc2 hP hS hl hlo hso hn' hag hret
  exact k hlo hP.2.2 p l e R s m args below meth c base b D aC n0 φ0 φ Hp locs cells slots lsA QM hC hR1 hR2 hc1 hc2 hP hS hl hlo hso hn' hag hret
/-- branches -/
theorem Fr.br {c0 : Prop} {tgt pc' : Nat} {st1 : List AV} (ho : (∀ v ∈ st1, okV K.length v) → ∀ v ∈ st, okV K.length v) (kt : c0 → Fr M d fc fs sc tgt ls st K H Q) (kf : ¬ c0 → Fr M d fc fs sc pc' ls st K H Q)
    (hw : ∀ {p : Program} {l : Launch} {e : Env} {R : Room} {s : State} {m : MethodId} {args : Array Value} {below : List Frame} {meth : Method} {c : Code} {Hp : Heap} {locs : List Loc} {cells slots : Nat} {QM : State → Prop} (φ : Nat → Nat) (b : Nat) (lsA : Array Slot), p.tables.exec = Jvm.exec → c.code = M.2.1 → (∀ v ∈ st1, okV K.length v) →
      (c0 → W p l e R s m args below meth c Hp locs cells slots QM (F0 m tgt lsA (st.map (toV φ b)))) → (¬ c0 → W p l e R s m args below meth c Hp locs cells slots QM (F0 m pc' lsA (st.map (toV φ b)))) → W p l e R s m args below meth c Hp locs cells slots QM (F0 m pc lsA (st1.map (toV φ b)))) : Fr M d fc fs sc pc ls st1 K H Q := by
  intro p l e R s m args below meth c base b D aC n0 φ0 φ Hp locs cells slots lsA QM hC hR1 hR2 hc1 hc2 hP hS hl hlo hso hn hag hret
  exact hw φ b lsA hC.1 hC.2.1 hso (fun h => kt h p l e R s m args below meth c base b D aC n0 φ0 φ Hp locs cells slots lsA QM hC hR1 hR2 hc1 hc2 hP hS hl hlo (ho hso) hn hag hret) (fun h => kf h p l e R s m args below meth c base b D aC n0 φ0 φ Hp locs cells slots lsA QM hC hR1 hR2 hc1 hc2 hP hS hl hlo (ho hso) hn hag hret)
theorem r_icmp_eq {x y off : Int} {tgt : Nat} (hd : decode M.2.1 pc = .ok (.if_icmp .eq off, 3)) (ht : (pc : Int) + off = (tgt : Int)) (kt : x = y → Fr M d fc fs sc tgt ls st K H Q) (kf : ¬ x = y → Fr M d fc fs sc (pc + 3) ls st K H Q) : Fr M d fc fs sc pc ls ((0, y) :: (0, x) :: st) K H Q :=
  Fr.br (fun o => (ok_2 o).2.2) kt kf fun φ b lsA hx hb o wt wf => lv_icmp_eq hx hb hd ht (fun h => wt ((i_eq (ok_2 o).2.1 (ok_2 o).1).mp h)) (fun h => wf (fun q => h ((i_eq (ok_2 o).2.1 (ok_2 o).1).mpr q)))
theorem r_icmp_ne {x y off : Int} {tgt : Nat} (hd : decode M.2.1 pc = .ok (.if_icmp .ne off, 3)) (ht : (pc : Int) + off = (tgt : Int)) (kt : ¬ x = y → Fr M d fc fs sc tgt ls st K H Q) (kf : x = y → Fr M d fc fs sc (pc + 3) ls st K H Q) : Fr M d fc fs sc pc ls ((0, y) :: (0, x) :: st) K H Q :=
  Fr.br (c0 := ¬ x = y) (fun o => (ok_2 o).2.2) kt (fun h => kf (Classical.not_not.mp h)) fun φ b lsA hx hb o wt wf => lv_icmp_ne hx hb hd ht (fun h => wt (fun q => h ((i_eq (ok_2 o).2.1 (ok_2 o).1).mpr q))) (fun h => wf (fun q => q ((i_eq (ok_2 o).2.1 (ok_2 o).1).mp h)))
theorem r_icmp_lt {x y off : Int} {tgt : Nat} (hd : decode M.2.1 pc = .ok (.if_icmp .lt off, 3)) (ht : (pc : Int) + off = (tgt : Int)) (kt : x < y → Fr M d fc fs sc tgt ls st K H Q) (kf : ¬ x < y → Fr M d fc fs sc (pc + 3) ls st K H Q) : Fr M d fc fs sc pc ls ((0, y) :: (0, x) :: st) K H Q :=
  Fr.br (fun o => (ok_2 o).2.2) kt kf fun φ b lsA hx hb o wt wf => lv_icmp_lt hx hb hd ht (fun h => wt ((i_lt (ok_2 o).2.1 (ok_2 o).1).mp h)) (fun h => wf (fun q => h ((i_lt (ok_2 o).2.1 (ok_2 o).1).mpr q)))
theorem r_icmp_ge {x y off : Int} {tgt : Nat} (hd : decode M.2.1 pc = .ok (.if_icmp .ge off, 3)) (ht : (pc : Int) + off = (tgt : Int)) (kt : ¬ x < y → Fr M d fc fs sc tgt ls st K H Q) (kf : x < y → Fr M d fc fs sc (pc + 3) ls st K H Q) : Fr M d fc fs sc pc ls ((0, y) :: (0, x) :: st) K H Q :=
  Fr.br (c0 := y ≤ x) (fun o => (ok_2 o).2.2) (fun h => kt (Int.not_lt.mpr h)) (fun h => kf (Int.not_le.mp h)) fun φ b lsA hx hb o wt wf => lv_icmp_ge hx hb hd ht (fun h => wt ((i_le (ok_2 o).1 (ok_2 o).2.1).mp h)) (fun h => wf (fun q => h ((i_le (ok_2 o).1 (ok_2 o).2.1).mpr q)))
theorem r_icmp_gt {x y off : Int} {tgt : Nat} (hd : decode M.2.1 pc = .ok (.if_icmp .gt off, 3)) (ht : (pc : Int) + off = (tgt : Int)) (kt : ¬ x ≤ y → Fr M d fc fs sc tgt ls st K H Q) (kf : x ≤ y → Fr M d fc fs sc (pc + 3) ls st K H Q) : Fr M d fc fs sc pc ls ((0, y) :: (0, x) :: st) K H Q :=
  Fr.br (c0 := y < x) (fun o => (ok_2 o).2.2) (fun h => kt (Int.not_le.mpr h)) (fun h => kf (Int.not_lt.mp h)) fun φ b lsA hx hb o wt wf => lv_icmp_gt hx hb hd ht (fun h => wt ((i_lt (ok_2 o).1 (ok_2 o).2.1).mp h)) (fun h => wf (fun q => h ((i_lt (ok_2 o).1 (ok_2 o).2.1).mpr q)))
theorem r_icmp_le {x y off : Int} {tgt : Nat} (hd : decode M.2.1 pc = .ok (.if_icmp .le off, 3)) (ht : (pc : Int) + off = (tgt : Int)) (kt : x ≤ y → Fr M d fc fs sc tgt ls st K H Q) (kf : ¬ x ≤ y → Fr M d fc fs sc (pc + 3) ls st K H Q) : Fr M d fc fs sc pc ls ((0, y) :: (0, x) :: st) K H Q :=
  Fr.br (fun o => (ok_2 o).2.2) kt kf fun φ b lsA hx hb o wt wf => lv_icmp_le hx hb hd ht (fun h => wt ((i_le (ok_2 o).2.1 (ok_2 o).1).mp h)) (fun h => wf (fun q => h ((i_le (ok_2 o).2.1 (ok_2 o).1).mpr q)))
theorem r_if_eq {x off : Int} {tgt : Nat} (hd : decode M.2.1 pc = .ok (.ifCond .eq off, 3)) (ht : (pc : Int) + off = (tgt : Int)) (kt : x = 0 → Fr M d fc fs sc tgt ls st K H Q) (kf : ¬ x = 0 → Fr M d fc fs sc (pc + 3) ls st K H Q) : Fr M d fc fs sc pc ls ((0, x) :: st) K H Q :=
  Fr.br (fun o => (ok_1 o).2) kt kf fun φ b lsA hx hb o wt wf => lv_if_eq hx hb hd ht (fun h => wt ((i_eq (ok_1 o).1 i_zero).mp h)) (fun h => wf (fun q => h ((i_eq (ok_1 o).1 i_zero).mpr q)))
theorem r_if_ne {x off : Int} {tgt : Nat} (hd : decode M.2.1 pc = .ok (.ifCond .ne off, 3)) (ht : (pc : Int) + off = (tgt : Int)) (kt : ¬ x = 0 → Fr M d fc fs sc tgt ls st K H Q) (kf : x = 0 → Fr M d fc fs sc (pc + 3) ls st K H Q) : Fr M d fc fs sc pc ls ((0, x) :: st) K H Q :=
  Fr.br (c0 := ¬ x = 0) (fun o => (ok_1 o).2) kt (fun h => kf (Classical.not_not.mp h)) fun φ b lsA hx hb o wt wf => lv_if_ne hx hb hd ht (fun h => wt (fun q => h ((i_eq (ok_1 o).1 i_zero).mpr q))) (fun h => wf (fun q => q ((i_eq (ok_1 o).1 i_zero).mp h)))
theorem r_if_lt {x off : Int} {tgt : Nat} (hd : decode M.2.1 pc = .ok (.ifCond .lt off, 3)) (ht : (pc : Int) + off = (tgt : Int)) (kt : x < 0 → Fr M d fc fs sc tgt ls st K H Q) (kf : ¬ x < 0 → Fr M d fc fs sc (pc + 3) ls st K H Q) : Fr M d fc fs sc pc ls ((0, x) :: st) K H Q :=
  Fr.br (fun o => (ok_1 o).2) kt kf fun φ b lsA hx hb o wt wf => lv_if_lt hx hb hd ht (fun h => wt ((i_lt (ok_1 o).1 i_zero).mp h)) (fun h => wf (fun q => h ((i_lt (ok_1 o).1 i_zero).mpr q)))
theorem r_if_ge {x off : Int} {tgt : Nat} (hd : decode M.2.1 pc = .ok (.ifCond .ge off, 3)) (ht : (pc : Int) + off = (tgt : Int)) (kt : ¬ x < 0 → Fr M d fc fs sc tgt ls st K H Q) (kf : x < 0 → Fr M d fc fs sc (pc + 3) ls st K H Q) : Fr M d fc fs sc pc ls ((0, x) :: st) K H Q :=
  Fr.br (c0 := 0 ≤ x) (fun o => (ok_1 o).2) (fun h => kt (Int.not_lt.mpr h)) (fun h => kf (Int.not_le.mp h)) fun φ b lsA hx hb o wt wf => lv_if_ge hx hb hd ht (fun h => wt ((i_le i_zero (ok_1 o).1).mp h)) (fun h => wf (fun q => h ((i_le i_zero (ok_1 o).1).mpr q)))
theorem r_if_gt {x off : Int} {tgt : Nat} (hd : decode M.2.1 pc = .ok (.ifCond .gt off, 3)) (ht : (pc : Int) + off = (tgt : Int)) (kt : ¬ x ≤ 0 → Fr M d fc fs sc tgt ls st K H Q) (kf : x ≤ 0 → Fr M d fc fs sc (pc + 3) ls st K H Q) : Fr M d fc fs sc pc ls ((0, x) :: st) K H Q :=
  Fr.br (c0 := 0 < x) (fun o => (ok_1 o).2) (fun h => kt (Int.not_le.mpr h)) (fun h => kf (Int.not_lt.mp h)) fun φ b lsA hx hb o wt wf => lv_if_gt hx hb hd ht (fun h => wt ((i_lt i_zero (ok_1 o).1).mp h)) (fun h => wf (fun q => h ((i_lt i_zero (ok_1 o).1).mpr q)))
theorem r_if_le {x off : Int} {tgt : Nat} (hd : decode M.2.1 pc = .ok (.ifCond .le off, 3)) (ht : (pc : Int) + off = (tgt : Int)) (kt : x ≤ 0 → Fr M d fc fs sc tgt ls st K H Q) (kf : ¬ x ≤ 0 → Fr M d fc fs sc (pc + 3) ls st K H Q) : Fr M d fc fs sc pc ls ((0, x) :: st) K H Q :=
  Fr.br (fun o => (ok_1 o).2) kt kf fun φ b lsA hx hb o wt wf => lv_if_le hx hb hd ht (fun h => wt ((i_le (ok_1 o).1 i_zero).mp h)) (fun h => wf (fun q => h ((i_le (ok_1 o).1 i_zero).mpr q)))
/-- a compare of longs: -1, 0, 1 -/
def cmpL (x y : Int) : Int := if y < x then 1 else if x = y then 0 else -1
theorem cmpL_in (x y : Int) : inI (cmpL x y) := by unfold cmpL inI; split <;> (try split) <;> omega
theorem cmpL_lt {x y : Int} : cmpL x y < 0 ↔ x < y := by unfold cmpL; split <;> (try split) <;> omega
theorem cmpL_le {x y : Int} : cmpL x y ≤ 0 ↔ x ≤ y := by unfold cmpL; split <;> (try split) <;> omega
theorem cmpL_eq {x y : Int} : cmpL x y = 0 ↔ x = y := by unfold cmpL; split <;> (try split) <;> omega
theorem rb_cmp_eq {x y : Int} (hx : inL x) (hy : inL y) : lg_cmp (Int64.ofInt x) (Int64.ofInt y) = Int32.ofInt (cmpL x y) := by
  unfold lg_cmp cmpL
  by_cases h1 : y < x
  · have := (l_lt hy hx).mpr h1
    simp [h1, this]; try rfl
  · have h1' : ¬ Int64.ofInt y < Int64.ofInt x := fun q => h1 ((l_lt hy hx).mp q)
    by_cases h2 : x = y
    · subst h2
      simp [h1']; try rfl
    · have h2' : ¬ Int64.ofInt x = Int64.ofInt y := fun q => h2 ((l_eq hx hy).mp q)
      simp [h1, h1', h2, h2']; try rfl
theorem r_lcmp {x y : Int} (hd : decode M.2.1 pc = .ok (.lcmp, 1)) (k : Fr M d fc fs sc (pc + 1) ls ((0, cmpL x y) :: st) K H Q) : Fr M d fc fs sc pc ls ((1, y) :: (1, x) :: st) K H Q :=
  Fr.pure k (fun o => ok_push (cmpL_in x y) (ok_2 o).2.2) (fun φ b lsA hx hb _ _ o w => W.lcmp hx hb hd (by
    rw [rb_cmp_eq (ok_2 o).2.1 (ok_2 o).1]; exact w))
end Rules2
end
