section
-- ===== PART A: goes FIRST, ahead of the names: the tables' words, and 'selects' of the private methods out of them =====
/-- a private method of a class that the tables say can be made, by its rows of tables_1 -/
def lw_okq (q : MethodName × Nat) : Prop := (q.1.cls ≠ "java/lang/invoke/MethodHandle" ∧ q.1.cls ≠ "java/lang/invoke/VarHandle") ∧ Cond.instantiable q.1.cls q.2 ∈ tables_1 ∧ Cond.privateMethod q.1 ∈ tables_1 ∧ Cond.instanceMethod q.1 ∈ tables_1
theorem lw_p0 : lw_okq (⟨"RodBeam$Section", "findEdges", "()V"⟩, 18) := ⟨⟨by decide +kernel, by decide +kernel⟩, List.mem_of_getElem? (i := 290) (by decide +kernel), List.mem_of_getElem? (i := 300) (by decide +kernel), List.mem_of_getElem? (i := 301) (by decide +kernel)⟩
theorem lw_p1 : lw_okq (⟨"RodBeam$Section", "isEdge", "(I)Z"⟩, 18) := ⟨⟨by decide +kernel, by decide +kernel⟩, List.mem_of_getElem? (i := 290) (by decide +kernel), List.mem_of_getElem? (i := 308) (by decide +kernel), List.mem_of_getElem? (i := 309) (by decide +kernel)⟩
theorem lw_p2 : lw_okq (⟨"RodBeam$Section", "placeRods", "(II)V"⟩, 18) := ⟨⟨by decide +kernel, by decide +kernel⟩, List.mem_of_getElem? (i := 290) (by decide +kernel), List.mem_of_getElem? (i := 316) (by decide +kernel), List.mem_of_getElem? (i := 317) (by decide +kernel)⟩
theorem lw_p3 : lw_okq (⟨"RodBeam", "isSection", "(I)Z"⟩, 8) := ⟨⟨by decide +kernel, by decide +kernel⟩, List.mem_of_getElem? (i := 18) (by decide +kernel), List.mem_of_getElem? (i := 435) (by decide +kernel), List.mem_of_getElem? (i := 436) (by decide +kernel)⟩
theorem lw_p4 : lw_okq (⟨"RodBeam", "deny", "(I)Z"⟩, 8) := ⟨⟨by decide +kernel, by decide +kernel⟩, List.mem_of_getElem? (i := 18) (by decide +kernel), List.mem_of_getElem? (i := 442) (by decide +kernel), List.mem_of_getElem? (i := 443) (by decide +kernel)⟩
theorem lw_p5 : lw_okq (⟨"RodBeam", "allow", "()Z"⟩, 8) := ⟨⟨by decide +kernel, by decide +kernel⟩, List.mem_of_getElem? (i := 18) (by decide +kernel), List.mem_of_getElem? (i := 447) (by decide +kernel), List.mem_of_getElem? (i := 448) (by decide +kernel)⟩
theorem lw_p6 : lw_okq (⟨"RodBeam", "refuse", "(I)I"⟩, 8) := ⟨⟨by decide +kernel, by decide +kernel⟩, List.mem_of_getElem? (i := 18) (by decide +kernel), List.mem_of_getElem? (i := 455) (by decide +kernel), List.mem_of_getElem? (i := 456) (by decide +kernel)⟩
theorem lw_p7 : lw_okq (⟨"RodBeam", "give", "(I)I"⟩, 8) := ⟨⟨by decide +kernel, by decide +kernel⟩, List.mem_of_getElem? (i := 18) (by decide +kernel), List.mem_of_getElem? (i := 463) (by decide +kernel), List.mem_of_getElem? (i := 464) (by decide +kernel)⟩
theorem lw_p8 : lw_okq (⟨"RodBeam", "isRod", "(II)Z"⟩, 8) := ⟨⟨by decide +kernel, by decide +kernel⟩, List.mem_of_getElem? (i := 18) (by decide +kernel), List.mem_of_getElem? (i := 479) (by decide +kernel), List.mem_of_getElem? (i := 480) (by decide +kernel)⟩
theorem lw_p9 : lw_okq (⟨"RodBeam", "walkTo", "(IIZ)I"⟩, 8) := ⟨⟨by decide +kernel, by decide +kernel⟩, List.mem_of_getElem? (i := 18) (by decide +kernel), List.mem_of_getElem? (i := 505) (by decide +kernel), List.mem_of_getElem? (i := 506) (by decide +kernel)⟩
theorem lw_p10 : lw_okq (⟨"RodBeam", "giveShare", "(LRodBeam$Share;)I"⟩, 8) := ⟨⟨by decide +kernel, by decide +kernel⟩, List.mem_of_getElem? (i := 18) (by decide +kernel), List.mem_of_getElem? (i := 539) (by decide +kernel), List.mem_of_getElem? (i := 540) (by decide +kernel)⟩
theorem lw_p11 : lw_okq (⟨"RodBeam$Text", "write", "(C)V"⟩, 3) := ⟨⟨by decide +kernel, by decide +kernel⟩, List.mem_of_getElem? (i := 26) (by decide +kernel), List.mem_of_getElem? (i := 571) (by decide +kernel), List.mem_of_getElem? (i := 572) (by decide +kernel)⟩
theorem lw_p12 : lw_okq (⟨"RodBeam$Text", "writeWhole", "(LRodBeam$Whole;)V"⟩, 3) := ⟨⟨by decide +kernel, by decide +kernel⟩, List.mem_of_getElem? (i := 26) (by decide +kernel), List.mem_of_getElem? (i := 575) (by decide +kernel), List.mem_of_getElem? (i := 576) (by decide +kernel)⟩
theorem lw_p13 : lw_okq (⟨"RodBeam", "bears", "(LRodBeam$Section;II)Z"⟩, 8) := ⟨⟨by decide +kernel, by decide +kernel⟩, List.mem_of_getElem? (i := 18) (by decide +kernel), List.mem_of_getElem? (i := 590) (by decide +kernel), List.mem_of_getElem? (i := 591) (by decide +kernel)⟩
theorem lw_p14 : lw_okq (⟨"RodBeam", "forgetBests", "()V"⟩, 8) := ⟨⟨by decide +kernel, by decide +kernel⟩, List.mem_of_getElem? (i := 18) (by decide +kernel), List.mem_of_getElem? (i := 604) (by decide +kernel), List.mem_of_getElem? (i := 605) (by decide +kernel)⟩
theorem lw_p15 : lw_okq (⟨"RodBeam$Chooser", "listAsks", "(LRodBeam$Section;LRodBeam$Pairs;)V"⟩, 8) := ⟨⟨by decide +kernel, by decide +kernel⟩, List.mem_of_getElem? (i := 258) (by decide +kernel), List.mem_of_getElem? (i := 637) (by decide +kernel), List.mem_of_getElem? (i := 638) (by decide +kernel)⟩
def lw_privs_1 : List (MethodName × Nat) := [(⟨"RodBeam$Section", "findEdges", "()V"⟩, 18), (⟨"RodBeam$Section", "isEdge", "(I)Z"⟩, 18), (⟨"RodBeam$Section", "placeRods", "(II)V"⟩, 18), (⟨"RodBeam", "isSection", "(I)Z"⟩, 8), (⟨"RodBeam", "deny", "(I)Z"⟩, 8), (⟨"RodBeam", "allow", "()Z"⟩, 8), (⟨"RodBeam", "refuse", "(I)I"⟩, 8), (⟨"RodBeam", "give", "(I)I"⟩, 8), (⟨"RodBeam", "isRod", "(II)Z"⟩, 8), (⟨"RodBeam", "walkTo", "(IIZ)I"⟩, 8), (⟨"RodBeam", "giveShare", "(LRodBeam$Share;)I"⟩, 8), (⟨"RodBeam$Text", "write", "(C)V"⟩, 3), (⟨"RodBeam$Text", "writeWhole", "(LRodBeam$Whole;)V"⟩, 3), (⟨"RodBeam", "bears", "(LRodBeam$Section;II)Z"⟩, 8), (⟨"RodBeam", "forgetBests", "()V"⟩, 8), (⟨"RodBeam$Chooser", "listAsks", "(LRodBeam$Section;LRodBeam$Pairs;)V"⟩, 8)]
theorem lw_r1 : ∀ q ∈ lw_privs_1, lw_okq q := List.forall_mem_cons.mpr ⟨lw_p0, List.forall_mem_cons.mpr ⟨lw_p1, List.forall_mem_cons.mpr ⟨lw_p2, List.forall_mem_cons.mpr ⟨lw_p3, List.forall_mem_cons.mpr ⟨lw_p4, List.forall_mem_cons.mpr ⟨lw_p5, List.forall_mem_cons.mpr ⟨lw_p6, List.forall_mem_cons.mpr ⟨lw_p7, List.forall_mem_cons.mpr ⟨lw_p8, List.forall_mem_cons.mpr ⟨lw_p9, List.forall_mem_cons.mpr ⟨lw_p10, List.forall_mem_cons.mpr ⟨lw_p11, List.forall_mem_cons.mpr ⟨lw_p12, List.forall_mem_cons.mpr ⟨lw_p13, List.forall_mem_cons.mpr ⟨lw_p14, List.forall_mem_cons.mpr ⟨lw_p15, fun _ h => absurd h List.not_mem_nil⟩⟩⟩⟩⟩⟩⟩⟩⟩⟩⟩⟩⟩⟩⟩⟩
theorem lw_p16 : lw_okq (⟨"RodBeam$Chooser", "listAsk", "(LRodBeam$Section;IIZ)V"⟩, 8) := ⟨⟨by decide +kernel, by decide +kernel⟩, List.mem_of_getElem? (i := 258) (by decide +kernel), List.mem_of_getElem? (i := 642) (by decide +kernel), List.mem_of_getElem? (i := 643) (by decide +kernel)⟩
theorem lw_p17 : lw_okq (⟨"RodBeam$Chooser", "bearsAll", "(LRodBeam$Section;)Z"⟩, 8) := ⟨⟨by decide +kernel, by decide +kernel⟩, List.mem_of_getElem? (i := 258) (by decide +kernel), List.mem_of_getElem? (i := 655) (by decide +kernel), List.mem_of_getElem? (i := 656) (by decide +kernel)⟩
theorem lw_p18 : lw_okq (⟨"RodBeam$Chooser", "putFirst", "(I)V"⟩, 8) := ⟨⟨by decide +kernel, by decide +kernel⟩, List.mem_of_getElem? (i := 258) (by decide +kernel), List.mem_of_getElem? (i := 659) (by decide +kernel), List.mem_of_getElem? (i := 660) (by decide +kernel)⟩
theorem lw_p19 : lw_okq (⟨"RodBeam$Chooser", "choose", "(LRodBeam$Section;LRodBeam$Sizes;II)V"⟩, 8) := ⟨⟨by decide +kernel, by decide +kernel⟩, List.mem_of_getElem? (i := 258) (by decide +kernel), List.mem_of_getElem? (i := 663) (by decide +kernel), List.mem_of_getElem? (i := 664) (by decide +kernel)⟩
theorem lw_p20 : lw_okq (⟨"RodBeam$Chooser", "keep", "(LRodBeam$Section;I)V"⟩, 8) := ⟨⟨by decide +kernel, by decide +kernel⟩, List.mem_of_getElem? (i := 258) (by decide +kernel), List.mem_of_getElem? (i := 667) (by decide +kernel), List.mem_of_getElem? (i := 668) (by decide +kernel)⟩
theorem lw_p21 : lw_okq (⟨"RodBeam$Chooser", "attempt", "(LRodBeam$Section;LRodBeam$Sizes;III)V"⟩, 8) := ⟨⟨by decide +kernel, by decide +kernel⟩, List.mem_of_getElem? (i := 258) (by decide +kernel), List.mem_of_getElem? (i := 674) (by decide +kernel), List.mem_of_getElem? (i := 675) (by decide +kernel)⟩
theorem lw_p22 : lw_okq (⟨"RodBeam", "carryOut", "(LRodBeam$Section;)I"⟩, 8) := ⟨⟨by decide +kernel, by decide +kernel⟩, List.mem_of_getElem? (i := 18) (by decide +kernel), List.mem_of_getElem? (i := 700) (by decide +kernel), List.mem_of_getElem? (i := 701) (by decide +kernel)⟩
theorem lw_p23 : lw_okq (⟨"RodBeam", "isSpan", "(I)Z"⟩, 8) := ⟨⟨by decide +kernel, by decide +kernel⟩, List.mem_of_getElem? (i := 18) (by decide +kernel), List.mem_of_getElem? (i := 725) (by decide +kernel), List.mem_of_getElem? (i := 726) (by decide +kernel)⟩
theorem lw_p24 : lw_okq (⟨"RodBeam$Beam", "putSag", "(LRodBeam$Section;LRodBeam$Share;)V"⟩, 12) := ⟨⟨by decide +kernel, by decide +kernel⟩, List.mem_of_getElem? (i := 123) (by decide +kernel), List.mem_of_getElem? (i := 745) (by decide +kernel), List.mem_of_getElem? (i := 746) (by decide +kernel)⟩
theorem lw_p25 : lw_okq (⟨"RodBeam$Beam", "putSupport", "([LRodBeam$Section;ILRodBeam$Share;)V"⟩, 12) := ⟨⟨by decide +kernel, by decide +kernel⟩, List.mem_of_getElem? (i := 123) (by decide +kernel), List.mem_of_getElem? (i := 755) (by decide +kernel), List.mem_of_getElem? (i := 756) (by decide +kernel)⟩
theorem lw_p26 : lw_okq (⟨"RodBeam$Beam", "putHog", "(LRodBeam$Section;LRodBeam$Share;)V"⟩, 12) := ⟨⟨by decide +kernel, by decide +kernel⟩, List.mem_of_getElem? (i := 123) (by decide +kernel), List.mem_of_getElem? (i := 759) (by decide +kernel), List.mem_of_getElem? (i := 760) (by decide +kernel)⟩
theorem lw_p27 : lw_okq (⟨"RodBeam", "giveRatio", "(LRodBeam$Ratio;)I"⟩, 8) := ⟨⟨by decide +kernel, by decide +kernel⟩, List.mem_of_getElem? (i := 18) (by decide +kernel), List.mem_of_getElem? (i := 818) (by decide +kernel), List.mem_of_getElem? (i := 819) (by decide +kernel)⟩
theorem lw_p28 : lw_okq (⟨"RodBeamModel", "is", "(I)Z"⟩, 51) := ⟨⟨by decide +kernel, by decide +kernel⟩, List.mem_of_getElem? (i := 848) (by decide +kernel), List.mem_of_getElem? (i := 1023) (by decide +kernel), List.mem_of_getElem? (i := 1024) (by decide +kernel)⟩
theorem lw_p29 : lw_okq (⟨"RodBeamModel", "refuse", "(I)I"⟩, 51) := ⟨⟨by decide +kernel, by decide +kernel⟩, List.mem_of_getElem? (i := 848) (by decide +kernel), List.mem_of_getElem? (i := 1031) (by decide +kernel), List.mem_of_getElem? (i := 1032) (by decide +kernel)⟩
theorem lw_p30 : lw_okq (⟨"RodBeamModel", "isRod", "(II)Z"⟩, 51) := ⟨⟨by decide +kernel, by decide +kernel⟩, List.mem_of_getElem? (i := 848) (by decide +kernel), List.mem_of_getElem? (i := 1043) (by decide +kernel), List.mem_of_getElem? (i := 1044) (by decide +kernel)⟩
theorem lw_p31 : lw_okq (⟨"RodBeamModel", "asTold", "(I)V"⟩, 51) := ⟨⟨by decide +kernel, by decide +kernel⟩, List.mem_of_getElem? (i := 848) (by decide +kernel), List.mem_of_getElem? (i := 1051) (by decide +kernel), List.mem_of_getElem? (i := 1052) (by decide +kernel)⟩
def lw_privs_2 : List (MethodName × Nat) := [(⟨"RodBeam$Chooser", "listAsk", "(LRodBeam$Section;IIZ)V"⟩, 8), (⟨"RodBeam$Chooser", "bearsAll", "(LRodBeam$Section;)Z"⟩, 8), (⟨"RodBeam$Chooser", "putFirst", "(I)V"⟩, 8), (⟨"RodBeam$Chooser", "choose", "(LRodBeam$Section;LRodBeam$Sizes;II)V"⟩, 8), (⟨"RodBeam$Chooser", "keep", "(LRodBeam$Section;I)V"⟩, 8), (⟨"RodBeam$Chooser", "attempt", "(LRodBeam$Section;LRodBeam$Sizes;III)V"⟩, 8), (⟨"RodBeam", "carryOut", "(LRodBeam$Section;)I"⟩, 8), (⟨"RodBeam", "isSpan", "(I)Z"⟩, 8), (⟨"RodBeam$Beam", "putSag", "(LRodBeam$Section;LRodBeam$Share;)V"⟩, 12), (⟨"RodBeam$Beam", "putSupport", "([LRodBeam$Section;ILRodBeam$Share;)V"⟩, 12), (⟨"RodBeam$Beam", "putHog", "(LRodBeam$Section;LRodBeam$Share;)V"⟩, 12), (⟨"RodBeam", "giveRatio", "(LRodBeam$Ratio;)I"⟩, 8), (⟨"RodBeamModel", "is", "(I)Z"⟩, 51), (⟨"RodBeamModel", "refuse", "(I)I"⟩, 51), (⟨"RodBeamModel", "isRod", "(II)Z"⟩, 51), (⟨"RodBeamModel", "asTold", "(I)V"⟩, 51)]
theorem lw_r2 : ∀ q ∈ lw_privs_2, lw_okq q := List.forall_mem_cons.mpr ⟨lw_p16, List.forall_mem_cons.mpr ⟨lw_p17, List.forall_mem_cons.mpr ⟨lw_p18, List.forall_mem_cons.mpr ⟨lw_p19, List.forall_mem_cons.mpr ⟨lw_p20, List.forall_mem_cons.mpr ⟨lw_p21, List.forall_mem_cons.mpr ⟨lw_p22, List.forall_mem_cons.mpr ⟨lw_p23, List.forall_mem_cons.mpr ⟨lw_p24, List.forall_mem_cons.mpr ⟨lw_p25, List.forall_mem_cons.mpr ⟨lw_p26, List.forall_mem_cons.mpr ⟨lw_p27, List.forall_mem_cons.mpr ⟨lw_p28, List.forall_mem_cons.mpr ⟨lw_p29, List.forall_mem_cons.mpr ⟨lw_p30, List.forall_mem_cons.mpr ⟨lw_p31, fun _ h => absurd h List.not_mem_nil⟩⟩⟩⟩⟩⟩⟩⟩⟩⟩⟩⟩⟩⟩⟩⟩
theorem lw_p32 : lw_okq (⟨"RodBeamModel", "greatest", "(I)I"⟩, 51) := ⟨⟨by decide +kernel, by decide +kernel⟩, List.mem_of_getElem? (i := 848) (by decide +kernel), List.mem_of_getElem? (i := 1055) (by decide +kernel), List.mem_of_getElem? (i := 1056) (by decide +kernel)⟩
theorem lw_p33 : lw_okq (⟨"RodBeamModel", "pulls", "()I"⟩, 51) := ⟨⟨by decide +kernel, by decide +kernel⟩, List.mem_of_getElem? (i := 848) (by decide +kernel), List.mem_of_getElem? (i := 1059) (by decide +kernel), List.mem_of_getElem? (i := 1060) (by decide +kernel)⟩
theorem lw_p34 : lw_okq (⟨"RodBeamModel", "wrong", "(II)I"⟩, 51) := ⟨⟨by decide +kernel, by decide +kernel⟩, List.mem_of_getElem? (i := 848) (by decide +kernel), List.mem_of_getElem? (i := 1075) (by decide +kernel), List.mem_of_getElem? (i := 1076) (by decide +kernel)⟩
theorem lw_p35 : lw_okq (⟨"RodBeamModel", "isPush", "(II)Z"⟩, 51) := ⟨⟨by decide +kernel, by decide +kernel⟩, List.mem_of_getElem? (i := 848) (by decide +kernel), List.mem_of_getElem? (i := 1084) (by decide +kernel), List.mem_of_getElem? (i := 1085) (by decide +kernel)⟩
theorem lw_p36 : lw_okq (⟨"RodBeamModel", "go", "(IJZ)V"⟩, 51) := ⟨⟨by decide +kernel, by decide +kernel⟩, List.mem_of_getElem? (i := 848) (by decide +kernel), List.mem_of_getElem? (i := 1088) (by decide +kernel), List.mem_of_getElem? (i := 1089) (by decide +kernel)⟩
theorem lw_p37 : lw_okq (⟨"RodBeamModel", "at", "(II)J"⟩, 51) := ⟨⟨by decide +kernel, by decide +kernel⟩, List.mem_of_getElem? (i := 848) (by decide +kernel), List.mem_of_getElem? (i := 1093) (by decide +kernel), List.mem_of_getElem? (i := 1094) (by decide +kernel)⟩
theorem lw_p38 : lw_okq (⟨"RodBeamModel", "found", "(JJJJ)V"⟩, 51) := ⟨⟨by decide +kernel, by decide +kernel⟩, List.mem_of_getElem? (i := 848) (by decide +kernel), List.mem_of_getElem? (i := 1097) (by decide +kernel), List.mem_of_getElem? (i := 1098) (by decide +kernel)⟩
theorem lw_p39 : lw_okq (⟨"RodBeamModel", "whole", "(J)I"⟩, 51) := ⟨⟨by decide +kernel, by decide +kernel⟩, List.mem_of_getElem? (i := 848) (by decide +kernel), List.mem_of_getElem? (i := 1101) (by decide +kernel), List.mem_of_getElem? (i := 1102) (by decide +kernel)⟩
theorem lw_p40 : lw_okq (⟨"RodBeamModel", "room", "(I)I"⟩, 51) := ⟨⟨by decide +kernel, by decide +kernel⟩, List.mem_of_getElem? (i := 848) (by decide +kernel), List.mem_of_getElem? (i := 1105) (by decide +kernel), List.mem_of_getElem? (i := 1106) (by decide +kernel)⟩
theorem lw_p41 : lw_okq (⟨"RodBeamModel", "done", "(IIZ)I"⟩, 51) := ⟨⟨by decide +kernel, by decide +kernel⟩, List.mem_of_getElem? (i := 848) (by decide +kernel), List.mem_of_getElem? (i := 1110) (by decide +kernel), List.mem_of_getElem? (i := 1111) (by decide +kernel)⟩
theorem lw_p42 : lw_okq (⟨"RodBeamModel", "tells", "(II)I"⟩, 51) := ⟨⟨by decide +kernel, by decide +kernel⟩, List.mem_of_getElem? (i := 848) (by decide +kernel), List.mem_of_getElem? (i := 1114) (by decide +kernel), List.mem_of_getElem? (i := 1115) (by decide +kernel)⟩
theorem lw_p43 : lw_okq (⟨"RodBeamModel", "common", "(II)I"⟩, 51) := ⟨⟨by decide +kernel, by decide +kernel⟩, List.mem_of_getElem? (i := 848) (by decide +kernel), List.mem_of_getElem? (i := 1118) (by decide +kernel), List.mem_of_getElem? (i := 1119) (by decide +kernel)⟩
theorem lw_p44 : lw_okq (⟨"RodBeamModel", "places", "(I)I"⟩, 51) := ⟨⟨by decide +kernel, by decide +kernel⟩, List.mem_of_getElem? (i := 848) (by decide +kernel), List.mem_of_getElem? (i := 1122) (by decide +kernel), List.mem_of_getElem? (i := 1123) (by decide +kernel)⟩
theorem lw_p45 : lw_okq (⟨"RodBeamModel", "put", "(II)V"⟩, 51) := ⟨⟨by decide +kernel, by decide +kernel⟩, List.mem_of_getElem? (i := 848) (by decide +kernel), List.mem_of_getElem? (i := 1127) (by decide +kernel), List.mem_of_getElem? (i := 1128) (by decide +kernel)⟩
theorem lw_p46 : lw_okq (⟨"RodBeamModel", "divide", "(II)V"⟩, 51) := ⟨⟨by decide +kernel, by decide +kernel⟩, List.mem_of_getElem? (i := 848) (by decide +kernel), List.mem_of_getElem? (i := 1131) (by decide +kernel), List.mem_of_getElem? (i := 1132) (by decide +kernel)⟩
theorem lw_p47 : lw_okq (⟨"RodBeamModel", "compareSizes", "(II)I"⟩, 51) := ⟨⟨by decide +kernel, by decide +kernel⟩, List.mem_of_getElem? (i := 848) (by decide +kernel), List.mem_of_getElem? (i := 1135) (by decide +kernel), List.mem_of_getElem? (i := 1136) (by decide +kernel)⟩
def lw_privs_3 : List (MethodName × Nat) := [(⟨"RodBeamModel", "greatest", "(I)I"⟩, 51), (⟨"RodBeamModel", "pulls", "()I"⟩, 51), (⟨"RodBeamModel", "wrong", "(II)I"⟩, 51), (⟨"RodBeamModel", "isPush", "(II)Z"⟩, 51), (⟨"RodBeamModel", "go", "(IJZ)V"⟩, 51), (⟨"RodBeamModel", "at", "(II)J"⟩, 51), (⟨"RodBeamModel", "found", "(JJJJ)V"⟩, 51), (⟨"RodBeamModel", "whole", "(J)I"⟩, 51), (⟨"RodBeamModel", "room", "(I)I"⟩, 51), (⟨"RodBeamModel", "done", "(IIZ)I"⟩, 51), (⟨"RodBeamModel", "tells", "(II)I"⟩, 51), (⟨"RodBeamModel", "common", "(II)I"⟩, 51), (⟨"RodBeamModel", "places", "(I)I"⟩, 51), (⟨"RodBeamModel", "put", "(II)V"⟩, 51), (⟨"RodBeamModel", "divide", "(II)V"⟩, 51), (⟨"RodBeamModel", "compareSizes", "(II)I"⟩, 51)]
theorem lw_r3 : ∀ q ∈ lw_privs_3, lw_okq q := List.forall_mem_cons.mpr ⟨lw_p32, List.forall_mem_cons.mpr ⟨lw_p33, List.forall_mem_cons.mpr ⟨lw_p34, List.forall_mem_cons.mpr ⟨lw_p35, List.forall_mem_cons.mpr ⟨lw_p36, List.forall_mem_cons.mpr ⟨lw_p37, List.forall_mem_cons.mpr ⟨lw_p38, List.forall_mem_cons.mpr ⟨lw_p39, List.forall_mem_cons.mpr ⟨lw_p40, List.forall_mem_cons.mpr ⟨lw_p41, List.forall_mem_cons.mpr ⟨lw_p42, List.forall_mem_cons.mpr ⟨lw_p43, List.forall_mem_cons.mpr ⟨lw_p44, List.forall_mem_cons.mpr ⟨lw_p45, List.forall_mem_cons.mpr ⟨lw_p46, List.forall_mem_cons.mpr ⟨lw_p47, fun _ h => absurd h List.not_mem_nil⟩⟩⟩⟩⟩⟩⟩⟩⟩⟩⟩⟩⟩⟩⟩⟩
theorem lw_p48 : lw_okq (⟨"RodBeamModel", "divideShort", "(I)V"⟩, 51) := ⟨⟨by decide +kernel, by decide +kernel⟩, List.mem_of_getElem? (i := 848) (by decide +kernel), List.mem_of_getElem? (i := 1139) (by decide +kernel), List.mem_of_getElem? (i := 1140) (by decide +kernel)⟩
theorem lw_p49 : lw_okq (⟨"RodBeamModel", "step", "(II)I"⟩, 51) := ⟨⟨by decide +kernel, by decide +kernel⟩, List.mem_of_getElem? (i := 848) (by decide +kernel), List.mem_of_getElem? (i := 1145) (by decide +kernel), List.mem_of_getElem? (i := 1146) (by decide +kernel)⟩
theorem lw_p50 : lw_okq (⟨"RodBeamModel", "divided", "(II)I"⟩, 51) := ⟨⟨by decide +kernel, by decide +kernel⟩, List.mem_of_getElem? (i := 848) (by decide +kernel), List.mem_of_getElem? (i := 1150) (by decide +kernel), List.mem_of_getElem? (i := 1151) (by decide +kernel)⟩
theorem lw_p51 : lw_okq (⟨"RodBeamModel", "sign", "(I)I"⟩, 51) := ⟨⟨by decide +kernel, by decide +kernel⟩, List.mem_of_getElem? (i := 848) (by decide +kernel), List.mem_of_getElem? (i := 1154) (by decide +kernel), List.mem_of_getElem? (i := 1155) (by decide +kernel)⟩
theorem lw_p52 : lw_okq (⟨"RodBeamModel", "turned", "(I)I"⟩, 51) := ⟨⟨by decide +kernel, by decide +kernel⟩, List.mem_of_getElem? (i := 848) (by decide +kernel), List.mem_of_getElem? (i := 1158) (by decide +kernel), List.mem_of_getElem? (i := 1159) (by decide +kernel)⟩
theorem lw_p53 : lw_okq (⟨"RodBeamModel", "copy", "(I)I"⟩, 51) := ⟨⟨by decide +kernel, by decide +kernel⟩, List.mem_of_getElem? (i := 848) (by decide +kernel), List.mem_of_getElem? (i := 1162) (by decide +kernel), List.mem_of_getElem? (i := 1163) (by decide +kernel)⟩
theorem lw_p54 : lw_okq (⟨"RodBeamModel", "tellsNumber", "(I)V"⟩, 51) := ⟨⟨by decide +kernel, by decide +kernel⟩, List.mem_of_getElem? (i := 848) (by decide +kernel), List.mem_of_getElem? (i := 1166) (by decide +kernel), List.mem_of_getElem? (i := 1167) (by decide +kernel)⟩
theorem lw_p55 : lw_okq (⟨"RodBeamModel", "tells0", "(I)V"⟩, 51) := ⟨⟨by decide +kernel, by decide +kernel⟩, List.mem_of_getElem? (i := 848) (by decide +kernel), List.mem_of_getElem? (i := 1170) (by decide +kernel), List.mem_of_getElem? (i := 1171) (by decide +kernel)⟩
theorem lw_p56 : lw_okq (⟨"RodBeamModel", "bears", "(III)Z"⟩, 51) := ⟨⟨by decide +kernel, by decide +kernel⟩, List.mem_of_getElem? (i := 848) (by decide +kernel), List.mem_of_getElem? (i := 1183) (by decide +kernel), List.mem_of_getElem? (i := 1184) (by decide +kernel)⟩
theorem lw_p57 : lw_okq (⟨"RodBeamModel", "fails", "(I)I"⟩, 51) := ⟨⟨by decide +kernel, by decide +kernel⟩, List.mem_of_getElem? (i := 848) (by decide +kernel), List.mem_of_getElem? (i := 1199) (by decide +kernel), List.mem_of_getElem? (i := 1200) (by decide +kernel)⟩
theorem lw_p58 : lw_okq (⟨"RodBeamModel", "choose", "(I)Z"⟩, 51) := ⟨⟨by decide +kernel, by decide +kernel⟩, List.mem_of_getElem? (i := 848) (by decide +kernel), List.mem_of_getElem? (i := 1211) (by decide +kernel), List.mem_of_getElem? (i := 1212) (by decide +kernel)⟩
theorem lw_p59 : lw_okq (⟨"RodBeamModel", "isSpan", "(I)Z"⟩, 51) := ⟨⟨by decide +kernel, by decide +kernel⟩, List.mem_of_getElem? (i := 848) (by decide +kernel), List.mem_of_getElem? (i := 1239) (by decide +kernel), List.mem_of_getElem? (i := 1240) (by decide +kernel)⟩
theorem lw_p60 : lw_okq (⟨"RodBeamModel", "timesOf", "(II)V"⟩, 51) := ⟨⟨by decide +kernel, by decide +kernel⟩, List.mem_of_getElem? (i := 848) (by decide +kernel), List.mem_of_getElem? (i := 1247) (by decide +kernel), List.mem_of_getElem? (i := 1248) (by decide +kernel)⟩
theorem lw_p61 : lw_okq (⟨"RodBeamModel", "gather", "(II)V"⟩, 51) := ⟨⟨by decide +kernel, by decide +kernel⟩, List.mem_of_getElem? (i := 848) (by decide +kernel), List.mem_of_getElem? (i := 1251) (by decide +kernel), List.mem_of_getElem? (i := 1252) (by decide +kernel)⟩
theorem lw_p62 : lw_okq (⟨"RodBeamModel", "strengthOf", "(IZ)V"⟩, 51) := ⟨⟨by decide +kernel, by decide +kernel⟩, List.mem_of_getElem? (i := 848) (by decide +kernel), List.mem_of_getElem? (i := 1255) (by decide +kernel), List.mem_of_getElem? (i := 1256) (by decide +kernel)⟩
theorem lw_p63 : lw_okq (⟨"RodBeamModel", "hogOf", "(I)V"⟩, 51) := ⟨⟨by decide +kernel, by decide +kernel⟩, List.mem_of_getElem? (i := 848) (by decide +kernel), List.mem_of_getElem? (i := 1259) (by decide +kernel), List.mem_of_getElem? (i := 1260) (by decide +kernel)⟩
def lw_privs_4 : List (MethodName × Nat) := [(⟨"RodBeamModel", "divideShort", "(I)V"⟩, 51), (⟨"RodBeamModel", "step", "(II)I"⟩, 51), (⟨"RodBeamModel", "divided", "(II)I"⟩, 51), (⟨"RodBeamModel", "sign", "(I)I"⟩, 51), (⟨"RodBeamModel", "turned", "(I)I"⟩, 51), (⟨"RodBeamModel", "copy", "(I)I"⟩, 51), (⟨"RodBeamModel", "tellsNumber", "(I)V"⟩, 51), (⟨"RodBeamModel", "tells0", "(I)V"⟩, 51), (⟨"RodBeamModel", "bears", "(III)Z"⟩, 51), (⟨"RodBeamModel", "fails", "(I)I"⟩, 51), (⟨"RodBeamModel", "choose", "(I)Z"⟩, 51), (⟨"RodBeamModel", "isSpan", "(I)Z"⟩, 51), (⟨"RodBeamModel", "timesOf", "(II)V"⟩, 51), (⟨"RodBeamModel", "gather", "(II)V"⟩, 51), (⟨"RodBeamModel", "strengthOf", "(IZ)V"⟩, 51), (⟨"RodBeamModel", "hogOf", "(I)V"⟩, 51)]
theorem lw_r4 : ∀ q ∈ lw_privs_4, lw_okq q := List.forall_mem_cons.mpr ⟨lw_p48, List.forall_mem_cons.mpr ⟨lw_p49, List.forall_mem_cons.mpr ⟨lw_p50, List.forall_mem_cons.mpr ⟨lw_p51, List.forall_mem_cons.mpr ⟨lw_p52, List.forall_mem_cons.mpr ⟨lw_p53, List.forall_mem_cons.mpr ⟨lw_p54, List.forall_mem_cons.mpr ⟨lw_p55, List.forall_mem_cons.mpr ⟨lw_p56, List.forall_mem_cons.mpr ⟨lw_p57, List.forall_mem_cons.mpr ⟨lw_p58, List.forall_mem_cons.mpr ⟨lw_p59, List.forall_mem_cons.mpr ⟨lw_p60, List.forall_mem_cons.mpr ⟨lw_p61, List.forall_mem_cons.mpr ⟨lw_p62, List.forall_mem_cons.mpr ⟨lw_p63, fun _ h => absurd h List.not_mem_nil⟩⟩⟩⟩⟩⟩⟩⟩⟩⟩⟩⟩⟩⟩⟩⟩
theorem lw_p64 : lw_okq (⟨"RodBeamModel", "less3", "(JJJJ)Z"⟩, 51) := ⟨⟨by decide +kernel, by decide +kernel⟩, List.mem_of_getElem? (i := 848) (by decide +kernel), List.mem_of_getElem? (i := 1263) (by decide +kernel), List.mem_of_getElem? (i := 1264) (by decide +kernel)⟩
theorem lw_p65 : lw_okq (⟨"RodBeamModel", "product", "(II)I"⟩, 51) := ⟨⟨by decide +kernel, by decide +kernel⟩, List.mem_of_getElem? (i := 848) (by decide +kernel), List.mem_of_getElem? (i := 1267) (by decide +kernel), List.mem_of_getElem? (i := 1268) (by decide +kernel)⟩
theorem lw_p66 : lw_okq (⟨"RodBeamModel", "less", "(II)I"⟩, 51) := ⟨⟨by decide +kernel, by decide +kernel⟩, List.mem_of_getElem? (i := 848) (by decide +kernel), List.mem_of_getElem? (i := 1271) (by decide +kernel), List.mem_of_getElem? (i := 1272) (by decide +kernel)⟩
theorem lw_p67 : lw_okq (⟨"RodBeamModel", "sum", "(II)I"⟩, 51) := ⟨⟨by decide +kernel, by decide +kernel⟩, List.mem_of_getElem? (i := 848) (by decide +kernel), List.mem_of_getElem? (i := 1275) (by decide +kernel), List.mem_of_getElem? (i := 1276) (by decide +kernel)⟩
theorem lw_p68 : lw_okq (⟨"RodBeamModel", "finds", "()Z"⟩, 51) := ⟨⟨by decide +kernel, by decide +kernel⟩, List.mem_of_getElem? (i := 848) (by decide +kernel), List.mem_of_getElem? (i := 1283) (by decide +kernel), List.mem_of_getElem? (i := 1284) (by decide +kernel)⟩
theorem lw_p69 : lw_okq (⟨"RodBeamModel", "held", "(I)I"⟩, 51) := ⟨⟨by decide +kernel, by decide +kernel⟩, List.mem_of_getElem? (i := 848) (by decide +kernel), List.mem_of_getElem? (i := 1287) (by decide +kernel), List.mem_of_getElem? (i := 1288) (by decide +kernel)⟩
theorem lw_p70 : lw_okq (⟨"RodBeamModel", "keep", "(II)V"⟩, 51) := ⟨⟨by decide +kernel, by decide +kernel⟩, List.mem_of_getElem? (i := 848) (by decide +kernel), List.mem_of_getElem? (i := 1291) (by decide +kernel), List.mem_of_getElem? (i := 1292) (by decide +kernel)⟩
def lw_privs_5 : List (MethodName × Nat) := [(⟨"RodBeamModel", "less3", "(JJJJ)Z"⟩, 51), (⟨"RodBeamModel", "product", "(II)I"⟩, 51), (⟨"RodBeamModel", "less", "(II)I"⟩, 51), (⟨"RodBeamModel", "sum", "(II)I"⟩, 51), (⟨"RodBeamModel", "finds", "()Z"⟩, 51), (⟨"RodBeamModel", "held", "(I)I"⟩, 51), (⟨"RodBeamModel", "keep", "(II)V"⟩, 51)]
theorem lw_r5 : ∀ q ∈ lw_privs_5, lw_okq q := List.forall_mem_cons.mpr ⟨lw_p64, List.forall_mem_cons.mpr ⟨lw_p65, List.forall_mem_cons.mpr ⟨lw_p66, List.forall_mem_cons.mpr ⟨lw_p67, List.forall_mem_cons.mpr ⟨lw_p68, List.forall_mem_cons.mpr ⟨lw_p69, List.forall_mem_cons.mpr ⟨lw_p70, fun _ h => absurd h List.not_mem_nil⟩⟩⟩⟩⟩⟩⟩
def lw_privs : List (MethodName × Nat) := lw_privs_1 ++ (lw_privs_2 ++ (lw_privs_3 ++ (lw_privs_4 ++ (lw_privs_5))))
def lw_tbl : List Cond := k2_sels lw_privs ++ tables_1
theorem lw_privs_ok : ∀ q ∈ lw_privs, lw_okq q := by
  show ∀ q ∈ lw_privs_1 ++ (lw_privs_2 ++ (lw_privs_3 ++ (lw_privs_4 ++ (lw_privs_5)))), lw_okq q
  exact List.forall_mem_append.mpr ⟨lw_r1, List.forall_mem_append.mpr ⟨lw_r2, List.forall_mem_append.mpr ⟨lw_r3, List.forall_mem_append.mpr ⟨lw_r4, lw_r5⟩⟩⟩⟩
-- ===== end of PART A; then your names; then what follows =====
/-! THE CLAIM OUT OF ONE WALK OF THE LAW'S BODY. Your part is whole_start (and what it stands on); all else here is the same for every law, but numbers. -/
def R_law : String := "RodBeamLaw"
def lw_P (b : Addr) (xs : List Int32) (args : Array Value) (s : State) : Prop := args = #[.ref b] ∧ s.IntsAt b xs ∧ xs.length ≤ 2560 ∧ (Jvm.Cond.and given_1 narrow_1).before args s = true
def lw_Q (_ : Array Value) (s : State) (o : Outcome) (t : State) : Prop := o = .returned (some (.int 1)) ∧ Framed s o t [] 600000 7302250
def lw_Z (below : List Frame) (a : Array Value) (s : State) : State → Prop := fun t => ∃ o, t.status = .running ∧ Ended t below o ∧ lw_Q a s o t
/-- the law's own end, with 1 on the stack, nothing written that was there before, its room as the claim has it -/
theorem lw_ret {p : Program} {l : Launch} {e : Env} {s : State} {m : MethodId} {below : List Frame} {meth : Method} {c : Code} {b : Nat} (hx : p.tables.exec = Jvm.exec) (hb : c.code = code) (hr : meth.sig.returnType = ret) (hlocks : meth.locks = false) {pc : Nat} {H : Heap} {ls : Array Slot} (hdg : decode code pc = .ok (.ireturn, 1)) : W p l e room_1 s m #[Value.ref b] below meth c H [] 600000 7302250 (lw_Z below #[Value.ref b] s) (F0 m pc ls [.int 1]) := by
  intro T hT X
  obtain ⟨fs, hret, hrun, hended, hW, hframe⟩ := X.leave (v := some (.int 1)) (hlocks := hlocks) (fun h => by rw [hr] at h; cases h)
  have hmeth' : T.vm.method? m = some meth := X.method'
  refine ⟨T.setFrames fs, ?_, .returned (some (.int 1)), hrun, hended, rfl, ⟨_, rfl⟩, hW, hframe⟩
  jvm_step X.here [X.here.top, hx, hb, hdg, hmeth', hr, ret, narrow_b1]
  (try refine ⟨rfl, ?_⟩); (try refine ⟨rfl, ?_⟩)
  first | (intro acts; rw [hret _ acts rfl rfl rfl]) | rw [hret _ _ rfl rfl rfl]
  exact Steps.refl _
/-- what holds at the law's entry: the machine, the code, the tables' words (any of lw_tbl by 'hts w (by decide +kernel)'), the script of L ints xs at the cell b, what the Statement gives of the start (any of its parts by flat_of_before) -/
def lw_At (p : Program) (s : State) (m : MethodId) (meth : Method) (c : Code) (b L : Nat) (xs : Nat → Int32) : Prop :=
  p.tables.exec = Jvm.exec ∧ c.code = code ∧ meth.sig.returnType = ret ∧ c.maxLocals = 4 ∧ s.vm.findClass R_law = some m.cls ∧ (∀ w ∈ lw_tbl, w.before #[Value.ref b] s = true) ∧ va_X b L xs s s.heap ∧ b < s.heap.size ∧ meth.locks = false ∧ (Jvm.Cond.and given_1 narrow_1).before #[Value.ref b] s = true
end
section
def RX0 : String := "RodBeam$Beam"
def TX0 : u_T := fun k => match k with
  | 0 => ("RodBeam$Beam", "count", "I", false)
  | 1 => ("RodBeam$Beam", "spans", "[LRodBeam$Span;", true)
  | 2 => ("RodBeam$Beam", "held", "[Z", true)
  | 3 => ("RodBeam$Beam", "here", "LRodBeam$Ratio;", true)
  | 4 => ("RodBeam$Beam", "least", "LRodBeam$Ratio;", true)
  | 5 => ("RodBeam$Beam", "leastSpan", "I", false)
  | 6 => ("RodBeam$Beam", "leastLoad", "I", false)
  | 7 => ("RodBeam$Beam", "walk", "LRodBeam$Walk;", true)
  | 8 => ("RodBeam$Beam", "sum", "LRodBeam$Share;", true)
  | 9 => ("RodBeam$Beam", "left", "LRodBeam$Share;", true)
  | 10 => ("RodBeam$Beam", "right", "LRodBeam$Share;", true)
  | _ => ("RodBeam$Beam", "other", "LRodBeam$Share;", true)
def tyX0 : Nat → FieldType := fun k => match k with
  | 0 => .int
  | 1 => .array (.object "RodBeam$Span")
  | 2 => .array .boolean
  | 3 => .object "RodBeam$Ratio"
  | 4 => .object "RodBeam$Ratio"
  | 5 => .int
  | 6 => .int
  | 7 => .object "RodBeam$Walk"
  | 8 => .object "RodBeam$Share"
  | 9 => .object "RodBeam$Share"
  | 10 => .object "RodBeam$Share"
  | _ => .object "RodBeam$Share"
theorem nmX0 : ∀ a, a < 12 → ∀ b, b < 12 → a ≠ b → (TX0 a).2.1 ≠ (TX0 b).2.1 := by decide +kernel
theorem tyX0_ok : ∀ k, k < 12 → parseFieldDescriptor (TX0 k).2.2.1 = some (tyX0 k) := by decide +kernel
abbrev cX0_init : ByteArray := prog_2_method_1_code
def yX0_init : MethodName := ⟨RX0, "<init>", "()V"⟩
abbrev cX0_addSpan : ByteArray := prog_2_method_2_code
def yX0_addSpan : MethodName := ⟨RX0, "addSpan", "(II)I"⟩
abbrev cX0_reckonLeast : ByteArray := prog_2_method_3_code
def yX0_reckonLeast : MethodName := ⟨RX0, "reckonLeast", "([LRodBeam$Section;)Z"⟩
abbrev cX0_reckon : ByteArray := prog_2_method_4_code
def yX0_reckon : MethodName := ⟨RX0, "reckon", "([LRodBeam$Section;II)V"⟩
abbrev cX0_putSag : ByteArray := prog_2_method_5_code
def yX0_putSag : MethodName := ⟨RX0, "putSag", "(LRodBeam$Section;LRodBeam$Share;)V"⟩
abbrev cX0_putHog : ByteArray := prog_2_method_6_code
def yX0_putHog : MethodName := ⟨RX0, "putHog", "(LRodBeam$Section;LRodBeam$Share;)V"⟩
abbrev cX0_putSupport : ByteArray := prog_2_method_7_code
def yX0_putSupport : MethodName := ⟨RX0, "putSupport", "([LRodBeam$Section;ILRodBeam$Share;)V"⟩
def RX1 : String := "RodBeam$Chooser"
def TX1 : u_T := fun k => match k with
  | 0 => ("RodBeam$Chooser", "walk", "LRodBeam$Walk;", true)
  | 1 => ("RodBeam$Chooser", "asks", "I", false)
  | 2 => ("RodBeam$Chooser", "askPush", "[I", true)
  | 3 => ("RodBeam$Chooser", "askBending", "[I", true)
  | 4 => ("RodBeam$Chooser", "askHigh", "[Z", true)
  | 5 => ("RodBeam$Chooser", "strongest", "I", false)
  | 6 => ("RodBeam$Chooser", "trial", "[I", true)
  | _ => ("RodBeam$Chooser", "pick", "[I", true)
def tyX1 : Nat → FieldType := fun k => match k with
  | 0 => .object "RodBeam$Walk"
  | 1 => .int
  | 2 => .array .int
  | 3 => .array .int
  | 4 => .array .boolean
  | 5 => .int
  | 6 => .array .int
  | _ => .array .int
theorem nmX1 : ∀ a, a < 8 → ∀ b, b < 8 → a ≠ b → (TX1 a).2.1 ≠ (TX1 b).2.1 := by decide +kernel
theorem tyX1_ok : ∀ k, k < 8 → parseFieldDescriptor (TX1 k).2.2.1 = some (tyX1 k) := by decide +kernel
abbrev cX1_init : ByteArray := prog_3_method_1_code
def yX1_init : MethodName := ⟨RX1, "<init>", "()V"⟩
abbrev cX1_findBest : ByteArray := prog_3_method_2_code
def yX1_findBest : MethodName := ⟨RX1, "findBest", "(LRodBeam$Section;LRodBeam$Pairs;LRodBeam$Sizes;)Z"⟩
abbrev cX1_listAsks : ByteArray := prog_3_method_3_code
def yX1_listAsks : MethodName := ⟨RX1, "listAsks", "(LRodBeam$Section;LRodBeam$Pairs;)V"⟩
abbrev cX1_listAsk : ByteArray := prog_3_method_4_code
def yX1_listAsk : MethodName := ⟨RX1, "listAsk", "(LRodBeam$Section;IIZ)V"⟩
abbrev cX1_bearsAll : ByteArray := prog_3_method_5_code
def yX1_bearsAll : MethodName := ⟨RX1, "bearsAll", "(LRodBeam$Section;)Z"⟩
abbrev cX1_putFirst : ByteArray := prog_3_method_6_code
def yX1_putFirst : MethodName := ⟨RX1, "putFirst", "(I)V"⟩
abbrev cX1_choose : ByteArray := prog_3_method_7_code
def yX1_choose : MethodName := ⟨RX1, "choose", "(LRodBeam$Section;LRodBeam$Sizes;II)V"⟩
abbrev cX1_attempt : ByteArray := prog_3_method_8_code
def yX1_attempt : MethodName := ⟨RX1, "attempt", "(LRodBeam$Section;LRodBeam$Sizes;III)V"⟩
abbrev cX1_keep : ByteArray := prog_3_method_9_code
def yX1_keep : MethodName := ⟨RX1, "keep", "(LRodBeam$Section;I)V"⟩
def RX2 : String := "RodBeam$Pairs"
def TX2 : u_T := fun k => match k with
  | 0 => ("RodBeam$Pairs", "count", "I", false)
  | 1 => ("RodBeam$Pairs", "push", "[I", true)
  | _ => ("RodBeam$Pairs", "bending", "[I", true)
def tyX2 : Nat → FieldType := fun k => match k with
  | 0 => .int
  | 1 => .array .int
  | _ => .array .int
theorem nmX2 : ∀ a, a < 3 → ∀ b, b < 3 → a ≠ b → (TX2 a).2.1 ≠ (TX2 b).2.1 := by decide +kernel
theorem tyX2_ok : ∀ k, k < 3 → parseFieldDescriptor (TX2 k).2.2.1 = some (tyX2 k) := by decide +kernel
abbrev cX2_init : ByteArray := prog_4_method_1_code
def yX2_init : MethodName := ⟨RX2, "<init>", "()V"⟩
abbrev cX2_add : ByteArray := prog_4_method_2_code
def yX2_add : MethodName := ⟨RX2, "add", "(II)I"⟩
def RX3 : String := "RodBeam$Ratio"
def TX3 : u_T := fun k => match k with
  | 0 => ("RodBeam$Ratio", "top", "LRodBeam$Whole;", true)
  | 1 => ("RodBeam$Ratio", "bottom", "LRodBeam$Whole;", true)
  | 2 => ("RodBeam$Ratio", "one", "LRodBeam$Whole;", true)
  | 3 => ("RodBeam$Ratio", "two", "LRodBeam$Whole;", true)
  | _ => ("RodBeam$Ratio", "three", "LRodBeam$Whole;", true)
def tyX3 : Nat → FieldType := fun k => match k with
  | 0 => .object "RodBeam$Whole"
  | 1 => .object "RodBeam$Whole"
  | 2 => .object "RodBeam$Whole"
  | 3 => .object "RodBeam$Whole"
  | _ => .object "RodBeam$Whole"
theorem nmX3 : ∀ a, a < 5 → ∀ b, b < 5 → a ≠ b → (TX3 a).2.1 ≠ (TX3 b).2.1 := by decide +kernel
theorem tyX3_ok : ∀ k, k < 5 → parseFieldDescriptor (TX3 k).2.2.1 = some (tyX3 k) := by decide +kernel
abbrev cX3_init : ByteArray := prog_5_method_1_code
def yX3_init : MethodName := ⟨RX3, "<init>", "()V"⟩
abbrev cX3_put : ByteArray := prog_5_method_2_code
def yX3_put : MethodName := ⟨RX3, "put", "(JJ)V"⟩
abbrev cX3_copy : ByteArray := prog_5_method_3_code
def yX3_copy : MethodName := ⟨RX3, "copy", "(LRodBeam$Ratio;)V"⟩
abbrev cX3_putSum : ByteArray := prog_5_method_4_code
def yX3_putSum : MethodName := ⟨RX3, "putSum", "(LRodBeam$Share;LRodBeam$Share;)V"⟩
abbrev cX3_divide : ByteArray := prog_5_method_5_code
def yX3_divide : MethodName := ⟨RX3, "divide", "(J)V"⟩
abbrev cX3_isUnder : ByteArray := prog_5_method_6_code
def yX3_isUnder : MethodName := ⟨RX3, "isUnder", "(LRodBeam$Ratio;)Z"⟩
def RX4 : String := "RodBeam$Section"
def TX4 : u_T := fun k => match k with
  | 0 => ("RodBeam$Section", "stoneStrength", "I", false)
  | 1 => ("RodBeam$Section", "middle", "I", false)
  | 2 => ("RodBeam$Section", "stonePush", "I", false)
  | 3 => ("RodBeam$Section", "bands", "I", false)
  | 4 => ("RodBeam$Section", "bandWidth", "[I", true)
  | 5 => ("RodBeam$Section", "bandFrom", "[I", true)
  | 6 => ("RodBeam$Section", "bandTo", "[I", true)
  | 7 => ("RodBeam$Section", "rods", "I", false)
  | 8 => ("RodBeam$Section", "rodHeight", "[I", true)
  | 9 => ("RodBeam$Section", "rodStrength", "[I", true)
  | 10 => ("RodBeam$Section", "edges", "I", false)
  | 11 => ("RodBeam$Section", "edge", "[I", true)
  | 12 => ("RodBeam$Section", "density", "[I", true)
  | 13 => ("RodBeam$Section", "edgeOfRod", "[I", true)
  | 14 => ("RodBeam$Section", "bestKnown", "Z", false)
  | 15 => ("RodBeam$Section", "bestPossible", "Z", false)
  | 16 => ("RodBeam$Section", "bestPrice", "I", false)
  | _ => ("RodBeam$Section", "bestPick", "[I", true)
def tyX4 : Nat → FieldType := fun k => match k with
  | 0 => .int
  | 1 => .int
  | 2 => .int
  | 3 => .int
  | 4 => .array .int
  | 5 => .array .int
  | 6 => .array .int
  | 7 => .int
  | 8 => .array .int
  | 9 => .array .int
  | 10 => .int
  | 11 => .array .int
  | 12 => .array .int
  | 13 => .array .int
  | 14 => .boolean
  | 15 => .boolean
  | 16 => .int
  | _ => .array .int
theorem nmX4 : ∀ a, a < 18 → ∀ b, b < 18 → a ≠ b → (TX4 a).2.1 ≠ (TX4 b).2.1 := by decide +kernel
theorem tyX4_ok : ∀ k, k < 18 → parseFieldDescriptor (TX4 k).2.2.1 = some (tyX4 k) := by decide +kernel
abbrev cX4_init : ByteArray := prog_6_method_1_code
def yX4_init : MethodName := ⟨RX4, "<init>", "()V"⟩
abbrev cX4_begin : ByteArray := prog_6_method_2_code
def yX4_begin : MethodName := ⟨RX4, "begin", "(II)V"⟩
abbrev cX4_addBand : ByteArray := prog_6_method_3_code
def yX4_addBand : MethodName := ⟨RX4, "addBand", "(III)I"⟩
abbrev cX4_addRod : ByteArray := prog_6_method_4_code
def yX4_addRod : MethodName := ⟨RX4, "addRod", "(II)I"⟩
abbrev cX4_area : ByteArray := prog_6_method_5_code
def yX4_area : MethodName := ⟨RX4, "area", "()I"⟩
abbrev cX4_rodsTogether : ByteArray := prog_6_method_6_code
def yX4_rodsTogether : MethodName := ⟨RX4, "rodsTogether", "()I"⟩
abbrev cX4_widthAbove : ByteArray := prog_6_method_7_code
def yX4_widthAbove : MethodName := ⟨RX4, "widthAbove", "(I)I"⟩
abbrev cX4_findEdges : ByteArray := prog_6_method_8_code
def yX4_findEdges : MethodName := ⟨RX4, "findEdges", "()V"⟩
abbrev cX4_isEdge : ByteArray := prog_6_method_9_code
def yX4_isEdge : MethodName := ⟨RX4, "isEdge", "(I)Z"⟩
abbrev cX4_placeRods : ByteArray := prog_6_method_10_code
def yX4_placeRods : MethodName := ⟨RX4, "placeRods", "(II)V"⟩
def RX5 : String := "RodBeam$Share"
def TX5 : u_T := fun k => match k with
  | 0 => ("RodBeam$Share", "top", "J", false)
  | _ => ("RodBeam$Share", "bottom", "J", false)
def tyX5 : Nat → FieldType := fun k => match k with
  | 0 => .long
  | _ => .long
theorem nmX5 : ∀ a, a < 2 → ∀ b, b < 2 → a ≠ b → (TX5 a).2.1 ≠ (TX5 b).2.1 := by decide +kernel
theorem tyX5_ok : ∀ k, k < 2 → parseFieldDescriptor (TX5 k).2.2.1 = some (tyX5 k) := by decide +kernel
abbrev cX5_init : ByteArray := prog_7_method_1_code
def yX5_init : MethodName := ⟨RX5, "<init>", "()V"⟩
abbrev cX5_put : ByteArray := prog_7_method_2_code
def yX5_put : MethodName := ⟨RX5, "put", "(JJ)V"⟩
abbrev cX5_shorten : ByteArray := prog_7_method_3_code
def yX5_shorten : MethodName := ⟨RX5, "shorten", "()V"⟩
abbrev cX5_scale : ByteArray := prog_7_method_4_code
def yX5_scale : MethodName := ⟨RX5, "scale", "(J)V"⟩
abbrev cX5_plus : ByteArray := prog_7_method_5_code
def yX5_plus : MethodName := ⟨RX5, "plus", "(LRodBeam$Share;)V"⟩
abbrev cX5_isUnder : ByteArray := prog_7_method_6_code
def yX5_isUnder : MethodName := ⟨RX5, "isUnder", "(LRodBeam$Share;)Z"⟩
def RX6 : String := "RodBeam$Sizes"
def TX6 : u_T := fun k => match k with
  | 0 => ("RodBeam$Sizes", "count", "I", false)
  | 1 => ("RodBeam$Sizes", "strengths", "[I", true)
  | _ => ("RodBeam$Sizes", "prices", "[I", true)
def tyX6 : Nat → FieldType := fun k => match k with
  | 0 => .int
  | 1 => .array .int
  | _ => .array .int
theorem nmX6 : ∀ a, a < 3 → ∀ b, b < 3 → a ≠ b → (TX6 a).2.1 ≠ (TX6 b).2.1 := by decide +kernel
theorem tyX6_ok : ∀ k, k < 3 → parseFieldDescriptor (TX6 k).2.2.1 = some (tyX6 k) := by decide +kernel
abbrev cX6_init : ByteArray := prog_8_method_1_code
def yX6_init : MethodName := ⟨RX6, "<init>", "()V"⟩
abbrev cX6_add : ByteArray := prog_8_method_2_code
def yX6_add : MethodName := ⟨RX6, "add", "(II)I"⟩
abbrev cX6_strengthOf : ByteArray := prog_8_method_3_code
def yX6_strengthOf : MethodName := ⟨RX6, "strengthOf", "(I)I"⟩
abbrev cX6_priceOf : ByteArray := prog_8_method_4_code
def yX6_priceOf : MethodName := ⟨RX6, "priceOf", "(I)I"⟩
abbrev cX6_strongest : ByteArray := prog_8_method_5_code
def yX6_strongest : MethodName := ⟨RX6, "strongest", "()I"⟩
abbrev cX6_isIdle : ByteArray := prog_8_method_6_code
def yX6_isIdle : MethodName := ⟨RX6, "isIdle", "(I)Z"⟩
def RX7 : String := "RodBeam$Span"
def TX7 : u_T := fun k => match k with
  | 0 => ("RodBeam$Span", "length", "I", false)
  | 1 => ("RodBeam$Span", "section", "I", false)
  | 2 => ("RodBeam$Span", "loads", "I", false)
  | 3 => ("RodBeam$Span", "place", "[I", true)
  | _ => ("RodBeam$Span", "weight", "[I", true)
def tyX7 : Nat → FieldType := fun k => match k with
  | 0 => .int
  | 1 => .int
  | 2 => .int
  | 3 => .array .int
  | _ => .array .int
theorem nmX7 : ∀ a, a < 5 → ∀ b, b < 5 → a ≠ b → (TX7 a).2.1 ≠ (TX7 b).2.1 := by decide +kernel
theorem tyX7_ok : ∀ k, k < 5 → parseFieldDescriptor (TX7 k).2.2.1 = some (tyX7 k) := by decide +kernel
abbrev cX7_init : ByteArray := prog_9_method_1_code
def yX7_init : MethodName := ⟨RX7, "<init>", "()V"⟩
abbrev cX7_hasLoadAt : ByteArray := prog_9_method_2_code
def yX7_hasLoadAt : MethodName := ⟨RX7, "hasLoadAt", "(I)Z"⟩
abbrev cX7_addLoad : ByteArray := prog_9_method_3_code
def yX7_addLoad : MethodName := ⟨RX7, "addLoad", "(II)I"⟩
abbrev cX7_freeTimesLength : ByteArray := prog_9_method_4_code
def yX7_freeTimesLength : MethodName := ⟨RX7, "freeTimesLength", "(I)J"⟩
def RX8 : String := "RodBeam$Text"
def TX8 : u_T := fun k => match k with
  | 0 => ("RodBeam$Text", "length", "I", false)
  | 1 => ("RodBeam$Text", "bytes", "[I", true)
  | _ => ("RodBeam$Text", "ratio", "LRodBeam$Ratio;", true)
def tyX8 : Nat → FieldType := fun k => match k with
  | 0 => .int
  | 1 => .array .int
  | _ => .object "RodBeam$Ratio"
theorem nmX8 : ∀ a, a < 3 → ∀ b, b < 3 → a ≠ b → (TX8 a).2.1 ≠ (TX8 b).2.1 := by decide +kernel
theorem tyX8_ok : ∀ k, k < 3 → parseFieldDescriptor (TX8 k).2.2.1 = some (tyX8 k) := by decide +kernel
abbrev cX8_init : ByteArray := prog_10_method_1_code
def yX8_init : MethodName := ⟨RX8, "<init>", "()V"⟩
abbrev cX8_writeShare : ByteArray := prog_10_method_2_code
def yX8_writeShare : MethodName := ⟨RX8, "writeShare", "(LRodBeam$Share;)V"⟩
abbrev cX8_writeRatio : ByteArray := prog_10_method_3_code
def yX8_writeRatio : MethodName := ⟨RX8, "writeRatio", "(ZLRodBeam$Ratio;)V"⟩
abbrev cX8_writeWhole : ByteArray := prog_10_method_4_code
def yX8_writeWhole : MethodName := ⟨RX8, "writeWhole", "(LRodBeam$Whole;)V"⟩
abbrev cX8_write : ByteArray := prog_10_method_5_code
def yX8_write : MethodName := ⟨RX8, "write", "(C)V"⟩
def RX9 : String := "RodBeam$Walk"
def TX9 : u_T := fun k => match k with
  | 0 => ("RodBeam$Walk", "bent", "LRodBeam$Share;", true)
  | 1 => ("RodBeam$Walk", "reached", "LRodBeam$Share;", true)
  | 2 => ("RodBeam$Walk", "room", "[I", true)
  | 3 => ("RodBeam$Walk", "leastPush", "I", false)
  | 4 => ("RodBeam$Walk", "mostPush", "I", false)
  | _ => ("RodBeam$Walk", "startTwice", "J", false)
def tyX9 : Nat → FieldType := fun k => match k with
  | 0 => .object "RodBeam$Share"
  | 1 => .object "RodBeam$Share"
  | 2 => .array .int
  | 3 => .int
  | 4 => .int
  | _ => .long
theorem nmX9 : ∀ a, a < 6 → ∀ b, b < 6 → a ≠ b → (TX9 a).2.1 ≠ (TX9 b).2.1 := by decide +kernel
theorem tyX9_ok : ∀ k, k < 6 → parseFieldDescriptor (TX9 k).2.2.1 = some (tyX9 k) := by decide +kernel
abbrev cX9_init : ByteArray := prog_11_method_1_code
def yX9_init : MethodName := ⟨RX9, "<init>", "()V"⟩
abbrev cX9_arm : ByteArray := prog_11_method_2_code
def yX9_arm : MethodName := ⟨RX9, "arm", "(LRodBeam$Section;[I)V"⟩
abbrev cX9_reaches : ByteArray := prog_11_method_3_code
def yX9_reaches : MethodName := ⟨RX9, "reaches", "(I)Z"⟩
abbrev cX9_bearsOn : ByteArray := prog_11_method_4_code
def yX9_bearsOn : MethodName := ⟨RX9, "bearsOn", "(LRodBeam$Section;IIZ)Z"⟩
abbrev cX9_fill : ByteArray := prog_11_method_5_code
def yX9_fill : MethodName := ⟨RX9, "fill", "(LRodBeam$Section;IZ)V"⟩
def RX10 : String := "RodBeam$Whole"
def TX10 : u_T := fun k => match k with
  | _ => ("RodBeam$Whole", "digit", "[J", true)
def tyX10 : Nat → FieldType := fun k => match k with
  | _ => .array .long
theorem nmX10 : ∀ a, a < 1 → ∀ b, b < 1 → a ≠ b → (TX10 a).2.1 ≠ (TX10 b).2.1 := by decide +kernel
theorem tyX10_ok : ∀ k, k < 1 → parseFieldDescriptor (TX10 k).2.2.1 = some (tyX10 k) := by decide +kernel
abbrev cX10_init : ByteArray := prog_12_method_1_code
def yX10_init : MethodName := ⟨RX10, "<init>", "()V"⟩
abbrev cX10_put : ByteArray := prog_12_method_2_code
def yX10_put : MethodName := ⟨RX10, "put", "(J)V"⟩
abbrev cX10_copy : ByteArray := prog_12_method_3_code
def yX10_copy : MethodName := ⟨RX10, "copy", "(LRodBeam$Whole;)V"⟩
abbrev cX10_plus : ByteArray := prog_12_method_4_code
def yX10_plus : MethodName := ⟨RX10, "plus", "(LRodBeam$Whole;)V"⟩
abbrev cX10_product : ByteArray := prog_12_method_5_code
def yX10_product : MethodName := ⟨RX10, "product", "(LRodBeam$Whole;LRodBeam$Whole;)V"⟩
abbrev cX10_restBy : ByteArray := prog_12_method_6_code
def yX10_restBy : MethodName := ⟨RX10, "restBy", "(J)J"⟩
abbrev cX10_divide : ByteArray := prog_12_method_7_code
def yX10_divide : MethodName := ⟨RX10, "divide", "(J)V"⟩
abbrev cX10_isUnder : ByteArray := prog_12_method_8_code
def yX10_isUnder : MethodName := ⟨RX10, "isUnder", "(LRodBeam$Whole;)Z"⟩
def RX11 : String := "RodBeam"
def TX11 : u_T := fun k => match k with
  | 0 => ("RodBeam", "latest", "I", false)
  | 1 => ("RodBeam", "text", "LRodBeam$Text;", true)
  | 2 => ("RodBeam", "sections", "[LRodBeam$Section;", true)
  | 3 => ("RodBeam", "pairs", "LRodBeam$Pairs;", true)
  | 4 => ("RodBeam", "sizes", "LRodBeam$Sizes;", true)
  | 5 => ("RodBeam", "beam", "LRodBeam$Beam;", true)
  | 6 => ("RodBeam", "walk", "LRodBeam$Walk;", true)
  | _ => ("RodBeam", "chooser", "LRodBeam$Chooser;", true)
def tyX11 : Nat → FieldType := fun k => match k with
  | 0 => .int
  | 1 => .object "RodBeam$Text"
  | 2 => .array (.object "RodBeam$Section")
  | 3 => .object "RodBeam$Pairs"
  | 4 => .object "RodBeam$Sizes"
  | 5 => .object "RodBeam$Beam"
  | 6 => .object "RodBeam$Walk"
  | _ => .object "RodBeam$Chooser"
theorem nmX11 : ∀ a, a < 8 → ∀ b, b < 8 → a ≠ b → (TX11 a).2.1 ≠ (TX11 b).2.1 := by decide +kernel
theorem tyX11_ok : ∀ k, k < 8 → parseFieldDescriptor (TX11 k).2.2.1 = some (tyX11 k) := by decide +kernel
abbrev cX11_init : ByteArray := prog_1_method_1_code
def yX11_init : MethodName := ⟨RX11, "<init>", "()V"⟩
abbrev cX11_status : ByteArray := prog_1_method_2_code
def yX11_status : MethodName := ⟨RX11, "status", "()I"⟩
abbrev cX11_out : ByteArray := prog_1_method_3_code
def yX11_out : MethodName := ⟨RX11, "out", "(I)I"⟩
abbrev cX11_stone : ByteArray := prog_1_method_4_code
def yX11_stone : MethodName := ⟨RX11, "stone", "(III)Z"⟩
abbrev cX11_band : ByteArray := prog_1_method_5_code
def yX11_band : MethodName := ⟨RX11, "band", "(IIII)I"⟩
abbrev cX11_rod : ByteArray := prog_1_method_6_code
def yX11_rod : MethodName := ⟨RX11, "rod", "(III)I"⟩
abbrev cX11_change : ByteArray := prog_1_method_7_code
def yX11_change : MethodName := ⟨RX11, "change", "(III)Z"⟩
abbrev cX11_told : ByteArray := prog_1_method_8_code
def yX11_told : MethodName := ⟨RX11, "told", "(II)I"⟩
abbrev cX11_strength : ByteArray := prog_1_method_9_code
def yX11_strength : MethodName := ⟨RX11, "strength", "(II)I"⟩
abbrev cX11_width : ByteArray := prog_1_method_10_code
def yX11_width : MethodName := ⟨RX11, "width", "(II)I"⟩
abbrev cX11_bend : ByteArray := prog_1_method_11_code
def yX11_bend : MethodName := ⟨RX11, "bend", "(IIZ)I"⟩
abbrev cX11_cut : ByteArray := prog_1_method_12_code
def yX11_cut : MethodName := ⟨RX11, "cut", "(IIZ)I"⟩
abbrev cX11_borne : ByteArray := prog_1_method_13_code
def yX11_borne : MethodName := ⟨RX11, "borne", "(III)I"⟩
abbrev cX11_pair : ByteArray := prog_1_method_14_code
def yX11_pair : MethodName := ⟨RX11, "pair", "(II)I"⟩
abbrev cX11_clear : ByteArray := prog_1_method_15_code
def yX11_clear : MethodName := ⟨RX11, "clear", "()Z"⟩
abbrev cX11_safe : ByteArray := prog_1_method_16_code
def yX11_safe : MethodName := ⟨RX11, "safe", "(I)I"⟩
abbrev cX11_size : ByteArray := prog_1_method_17_code
def yX11_size : MethodName := ⟨RX11, "size", "(II)I"⟩
abbrev cX11_best : ByteArray := prog_1_method_18_code
def yX11_best : MethodName := ⟨RX11, "best", "(I)I"⟩
abbrev cX11_chosen : ByteArray := prog_1_method_19_code
def yX11_chosen : MethodName := ⟨RX11, "chosen", "(II)I"⟩
abbrev cX11_take : ByteArray := prog_1_method_20_code
def yX11_take : MethodName := ⟨RX11, "take", "(I)I"⟩
abbrev cX11_span : ByteArray := prog_1_method_21_code
def yX11_span : MethodName := ⟨RX11, "span", "(II)I"⟩
abbrev cX11_away : ByteArray := prog_1_method_22_code
def yX11_away : MethodName := ⟨RX11, "away", "()Z"⟩
abbrev cX11_hold : ByteArray := prog_1_method_23_code
def yX11_hold : MethodName := ⟨RX11, "hold", "(IZ)Z"⟩
abbrev cX11_load : ByteArray := prog_1_method_24_code
def yX11_load : MethodName := ⟨RX11, "load", "(III)I"⟩
abbrev cX11_times : ByteArray := prog_1_method_25_code
def yX11_times : MethodName := ⟨RX11, "times", "(II)I"⟩
abbrev cX11_factor : ByteArray := prog_1_method_26_code
def yX11_factor : MethodName := ⟨RX11, "factor", "()I"⟩
abbrev cX11_weakest : ByteArray := prog_1_method_27_code
def yX11_weakest : MethodName := ⟨RX11, "weakest", "()I"⟩
abbrev cX11_refuse : ByteArray := prog_1_method_28_code
def yX11_refuse : MethodName := ⟨RX11, "refuse", "(I)I"⟩
abbrev cX11_deny : ByteArray := prog_1_method_29_code
def yX11_deny : MethodName := ⟨RX11, "deny", "(I)Z"⟩
abbrev cX11_give : ByteArray := prog_1_method_30_code
def yX11_give : MethodName := ⟨RX11, "give", "(I)I"⟩
abbrev cX11_allow : ByteArray := prog_1_method_31_code
def yX11_allow : MethodName := ⟨RX11, "allow", "()Z"⟩
abbrev cX11_giveShare : ByteArray := prog_1_method_32_code
def yX11_giveShare : MethodName := ⟨RX11, "giveShare", "(LRodBeam$Share;)I"⟩
abbrev cX11_giveRatio : ByteArray := prog_1_method_33_code
def yX11_giveRatio : MethodName := ⟨RX11, "giveRatio", "(LRodBeam$Ratio;)I"⟩
abbrev cX11_isSection : ByteArray := prog_1_method_34_code
def yX11_isSection : MethodName := ⟨RX11, "isSection", "(I)Z"⟩
abbrev cX11_isRod : ByteArray := prog_1_method_35_code
def yX11_isRod : MethodName := ⟨RX11, "isRod", "(II)Z"⟩
abbrev cX11_isSpan : ByteArray := prog_1_method_36_code
def yX11_isSpan : MethodName := ⟨RX11, "isSpan", "(I)Z"⟩
abbrev cX11_isFromTo : ByteArray := prog_1_method_37_code
def yX11_isFromTo : MethodName := ⟨RX11, "isFromTo", "(III)Z"⟩
abbrev cX11_isNear : ByteArray := prog_1_method_38_code
def yX11_isNear : MethodName := ⟨RX11, "isNear", "(I)Z"⟩
abbrev cX11_walkTo : ByteArray := prog_1_method_39_code
def yX11_walkTo : MethodName := ⟨RX11, "walkTo", "(IIZ)I"⟩
abbrev cX11_bears : ByteArray := prog_1_method_40_code
def yX11_bears : MethodName := ⟨RX11, "bears", "(LRodBeam$Section;II)Z"⟩
abbrev cX11_forgetBests : ByteArray := prog_1_method_41_code
def yX11_forgetBests : MethodName := ⟨RX11, "forgetBests", "()V"⟩
abbrev cX11_carryOut : ByteArray := prog_1_method_42_code
def yX11_carryOut : MethodName := ⟨RX11, "carryOut", "(LRodBeam$Section;)I"⟩
abbrev cX11_commonDivisor : ByteArray := prog_1_method_43_code
def yX11_commonDivisor : MethodName := ⟨RX11, "commonDivisor", "(JJ)J"⟩
def RX12 : String := "RodBeamModel"
def TX12 : u_T := fun k => match k with
  | 0 => ("RodBeamModel", "status", "I", false)
  | 1 => ("RodBeamModel", "mem", "[I", true)
  | 2 => ("RodBeamModel", "top", "I", false)
  | 3 => ("RodBeamModel", "left", "[I", true)
  | 4 => ("RodBeamModel", "by", "[I", true)
  | 5 => ("RodBeamModel", "quotient", "[I", true)
  | 6 => ("RodBeamModel", "leftSize", "I", false)
  | 7 => ("RodBeamModel", "quotientSize", "I", false)
  | 8 => ("RodBeamModel", "output", "[I", true)
  | 9 => ("RodBeamModel", "outs", "I", false)
  | 10 => ("RodBeamModel", "f", "[I", true)
  | 11 => ("RodBeamModel", "z", "[I", true)
  | 12 => ("RodBeamModel", "bands", "[I", true)
  | 13 => ("RodBeamModel", "rods", "[I", true)
  | 14 => ("RodBeamModel", "area", "[I", true)
  | 15 => ("RodBeamModel", "widths", "[I", true)
  | 16 => ("RodBeamModel", "rodHeight", "[I", true)
  | 17 => ("RodBeamModel", "rodStrength", "[I", true)
  | 18 => ("RodBeamModel", "use", "[I", true)
  | 19 => ("RodBeamModel", "bendN", "J", false)
  | 20 => ("RodBeamModel", "bendD", "J", false)
  | 21 => ("RodBeamModel", "cutN", "J", false)
  | 22 => ("RodBeamModel", "cutD", "J", false)
  | 23 => ("RodBeamModel", "pairN", "[I", true)
  | 24 => ("RodBeamModel", "pairM", "[I", true)
  | 25 => ("RodBeamModel", "sizeStrength", "[I", true)
  | 26 => ("RodBeamModel", "sizePrice", "[I", true)
  | 27 => ("RodBeamModel", "pairs", "I", false)
  | 28 => ("RodBeamModel", "sizes", "I", false)
  | 29 => ("RodBeamModel", "chosen", "[I", true)
  | 30 => ("RodBeamModel", "least", "I", false)
  | 31 => ("RodBeamModel", "length", "[I", true)
  | 32 => ("RodBeamModel", "sectionOf", "[I", true)
  | 33 => ("RodBeamModel", "loads", "[I", true)
  | 34 => ("RodBeamModel", "loadPlace", "[I", true)
  | 35 => ("RodBeamModel", "loadWeight", "[I", true)
  | 36 => ("RodBeamModel", "isHeld", "[Z", true)
  | 37 => ("RodBeamModel", "spans", "I", false)
  | 38 => ("RodBeamModel", "fn", "J", false)
  | 39 => ("RodBeamModel", "fd", "J", false)
  | 40 => ("RodBeamModel", "timesN0", "J", false)
  | 41 => ("RodBeamModel", "timesN1", "J", false)
  | 42 => ("RodBeamModel", "timesN2", "J", false)
  | 43 => ("RodBeamModel", "timesD0", "J", false)
  | 44 => ("RodBeamModel", "timesD1", "J", false)
  | 45 => ("RodBeamModel", "timesD2", "J", false)
  | 46 => ("RodBeamModel", "freeN", "J", false)
  | 47 => ("RodBeamModel", "up", "I", false)
  | 48 => ("RodBeamModel", "low", "I", false)
  | 49 => ("RodBeamModel", "kept", "[I", true)
  | _ => ("RodBeamModel", "weak", "I", false)
def tyX12 : Nat → FieldType := fun k => match k with
  | 0 => .int
  | 1 => .array .int
  | 2 => .int
  | 3 => .array .int
  | 4 => .array .int
  | 5 => .array .int
  | 6 => .int
  | 7 => .int
  | 8 => .array .int
  | 9 => .int
  | 10 => .array .int
  | 11 => .array .int
  | 12 => .array .int
  | 13 => .array .int
  | 14 => .array .int
  | 15 => .array .int
  | 16 => .array .int
  | 17 => .array .int
  | 18 => .array .int
  | 19 => .long
  | 20 => .long
  | 21 => .long
  | 22 => .long
  | 23 => .array .int
  | 24 => .array .int
  | 25 => .array .int
  | 26 => .array .int
  | 27 => .int
  | 28 => .int
  | 29 => .array .int
  | 30 => .int
  | 31 => .array .int
  | 32 => .array .int
  | 33 => .array .int
  | 34 => .array .int
  | 35 => .array .int
  | 36 => .array .boolean
  | 37 => .int
  | 38 => .long
  | 39 => .long
  | 40 => .long
  | 41 => .long
  | 42 => .long
  | 43 => .long
  | 44 => .long
  | 45 => .long
  | 46 => .long
  | 47 => .int
  | 48 => .int
  | 49 => .array .int
  | _ => .int
theorem nmX12 : ∀ a, a < 51 → ∀ b, b < 51 → a ≠ b → (TX12 a).2.1 ≠ (TX12 b).2.1 := by decide +kernel
theorem tyX12_ok : ∀ k, k < 51 → parseFieldDescriptor (TX12 k).2.2.1 = some (tyX12 k) := by decide +kernel
abbrev cX12_init : ByteArray := prog_14_method_1_code
def yX12_init : MethodName := ⟨RX12, "<init>", "()V"⟩
abbrev cX12_status : ByteArray := prog_14_method_2_code
def yX12_status : MethodName := ⟨RX12, "status", "()I"⟩
abbrev cX12_is : ByteArray := prog_14_method_3_code
def yX12_is : MethodName := ⟨RX12, "is", "(I)Z"⟩
abbrev cX12_refuse : ByteArray := prog_14_method_4_code
def yX12_refuse : MethodName := ⟨RX12, "refuse", "(I)I"⟩
abbrev cX12_places : ByteArray := prog_14_method_5_code
def yX12_places : MethodName := ⟨RX12, "places", "(I)I"⟩
abbrev cX12_sign : ByteArray := prog_14_method_6_code
def yX12_sign : MethodName := ⟨RX12, "sign", "(I)I"⟩
abbrev cX12_room : ByteArray := prog_14_method_7_code
def yX12_room : MethodName := ⟨RX12, "room", "(I)I"⟩
abbrev cX12_done : ByteArray := prog_14_method_8_code
def yX12_done : MethodName := ⟨RX12, "done", "(IIZ)I"⟩
abbrev cX12_whole : ByteArray := prog_14_method_9_code
def yX12_whole : MethodName := ⟨RX12, "whole", "(J)I"⟩
abbrev cX12_copy : ByteArray := prog_14_method_10_code
def yX12_copy : MethodName := ⟨RX12, "copy", "(I)I"⟩
abbrev cX12_turned : ByteArray := prog_14_method_11_code
def yX12_turned : MethodName := ⟨RX12, "turned", "(I)I"⟩
abbrev cX12_compareSizes : ByteArray := prog_14_method_12_code
def yX12_compareSizes : MethodName := ⟨RX12, "compareSizes", "(II)I"⟩
abbrev cX12_sum : ByteArray := prog_14_method_14_code
def yX12_sum : MethodName := ⟨RX12, "sum", "(II)I"⟩
abbrev cX12_less : ByteArray := prog_14_method_15_code
def yX12_less : MethodName := ⟨RX12, "less", "(II)I"⟩
abbrev cX12_product : ByteArray := prog_14_method_16_code
def yX12_product : MethodName := ⟨RX12, "product", "(II)I"⟩
abbrev cX12_divide : ByteArray := prog_14_method_17_code
def yX12_divide : MethodName := ⟨RX12, "divide", "(II)V"⟩
abbrev cX12_divideShort : ByteArray := prog_14_method_18_code
def yX12_divideShort : MethodName := ⟨RX12, "divideShort", "(I)V"⟩
abbrev cX12_step : ByteArray := prog_14_method_19_code
def yX12_step : MethodName := ⟨RX12, "step", "(II)I"⟩
abbrev cX12_divided : ByteArray := prog_14_method_20_code
def yX12_divided : MethodName := ⟨RX12, "divided", "(II)I"⟩
abbrev cX12_common : ByteArray := prog_14_method_21_code
def yX12_common : MethodName := ⟨RX12, "common", "(II)I"⟩
abbrev cX12_put : ByteArray := prog_14_method_22_code
def yX12_put : MethodName := ⟨RX12, "put", "(II)V"⟩
abbrev cX12_out : ByteArray := prog_14_method_23_code
def yX12_out : MethodName := ⟨RX12, "out", "(I)I"⟩
abbrev cX12_tells0 : ByteArray := prog_14_method_24_code
def yX12_tells0 : MethodName := ⟨RX12, "tells0", "(I)V"⟩
abbrev cX12_tellsNumber : ByteArray := prog_14_method_25_code
def yX12_tellsNumber : MethodName := ⟨RX12, "tellsNumber", "(I)V"⟩
abbrev cX12_tells : ByteArray := prog_14_method_26_code
def yX12_tells : MethodName := ⟨RX12, "tells", "(II)I"⟩
abbrev cX12_isSection : ByteArray := prog_14_method_27_code
def yX12_isSection : MethodName := ⟨RX12, "isSection", "(I)Z"⟩
abbrev cX12_stone : ByteArray := prog_14_method_28_code
def yX12_stone : MethodName := ⟨RX12, "stone", "(III)Z"⟩
abbrev cX12_band : ByteArray := prog_14_method_29_code
def yX12_band : MethodName := ⟨RX12, "band", "(IIII)I"⟩
abbrev cX12_rod : ByteArray := prog_14_method_30_code
def yX12_rod : MethodName := ⟨RX12, "rod", "(III)I"⟩
abbrev cX12_isRod : ByteArray := prog_14_method_31_code
def yX12_isRod : MethodName := ⟨RX12, "isRod", "(II)Z"⟩
abbrev cX12_change : ByteArray := prog_14_method_32_code
def yX12_change : MethodName := ⟨RX12, "change", "(III)Z"⟩
abbrev cX12_asTold : ByteArray := prog_14_method_33_code
def yX12_asTold : MethodName := ⟨RX12, "asTold", "(I)V"⟩
abbrev cX12_pulls : ByteArray := prog_14_method_34_code
def yX12_pulls : MethodName := ⟨RX12, "pulls", "()I"⟩
abbrev cX12_greatest : ByteArray := prog_14_method_35_code
def yX12_greatest : MethodName := ⟨RX12, "greatest", "(I)I"⟩
abbrev cX12_told : ByteArray := prog_14_method_36_code
def yX12_told : MethodName := ⟨RX12, "told", "(II)I"⟩
abbrev cX12_strength : ByteArray := prog_14_method_37_code
def yX12_strength : MethodName := ⟨RX12, "strength", "(II)I"⟩
abbrev cX12_width : ByteArray := prog_14_method_38_code
def yX12_width : MethodName := ⟨RX12, "width", "(II)I"⟩
abbrev cX12_at : ByteArray := prog_14_method_39_code
def yX12_at : MethodName := ⟨RX12, "at", "(II)J"⟩
abbrev cX12_go : ByteArray := prog_14_method_40_code
def yX12_go : MethodName := ⟨RX12, "go", "(IJZ)V"⟩
abbrev cX12_found : ByteArray := prog_14_method_41_code
def yX12_found : MethodName := ⟨RX12, "found", "(JJJJ)V"⟩
abbrev cX12_isPush : ByteArray := prog_14_method_42_code
def yX12_isPush : MethodName := ⟨RX12, "isPush", "(II)Z"⟩
abbrev cX12_isNumber : ByteArray := prog_14_method_43_code
def yX12_isNumber : MethodName := ⟨RX12, "isNumber", "(I)Z"⟩
abbrev cX12_wrong : ByteArray := prog_14_method_44_code
def yX12_wrong : MethodName := ⟨RX12, "wrong", "(II)I"⟩
abbrev cX12_bend : ByteArray := prog_14_method_45_code
def yX12_bend : MethodName := ⟨RX12, "bend", "(IIZ)I"⟩
abbrev cX12_cut : ByteArray := prog_14_method_46_code
def yX12_cut : MethodName := ⟨RX12, "cut", "(IIZ)I"⟩
abbrev cX12_bears : ByteArray := prog_14_method_47_code
def yX12_bears : MethodName := ⟨RX12, "bears", "(III)Z"⟩
abbrev cX12_borne : ByteArray := prog_14_method_48_code
def yX12_borne : MethodName := ⟨RX12, "borne", "(III)I"⟩
abbrev cX12_pair : ByteArray := prog_14_method_49_code
def yX12_pair : MethodName := ⟨RX12, "pair", "(II)I"⟩
abbrev cX12_clear : ByteArray := prog_14_method_50_code
def yX12_clear : MethodName := ⟨RX12, "clear", "()Z"⟩
abbrev cX12_fails : ByteArray := prog_14_method_51_code
def yX12_fails : MethodName := ⟨RX12, "fails", "(I)I"⟩
abbrev cX12_safe : ByteArray := prog_14_method_52_code
def yX12_safe : MethodName := ⟨RX12, "safe", "(I)I"⟩
abbrev cX12_size : ByteArray := prog_14_method_53_code
def yX12_size : MethodName := ⟨RX12, "size", "(II)I"⟩
abbrev cX12_choose : ByteArray := prog_14_method_54_code
def yX12_choose : MethodName := ⟨RX12, "choose", "(I)Z"⟩
abbrev cX12_best : ByteArray := prog_14_method_55_code
def yX12_best : MethodName := ⟨RX12, "best", "(I)I"⟩
abbrev cX12_chosen : ByteArray := prog_14_method_56_code
def yX12_chosen : MethodName := ⟨RX12, "chosen", "(II)I"⟩
abbrev cX12_take : ByteArray := prog_14_method_57_code
def yX12_take : MethodName := ⟨RX12, "take", "(I)I"⟩
abbrev cX12_span : ByteArray := prog_14_method_58_code
def yX12_span : MethodName := ⟨RX12, "span", "(II)I"⟩
abbrev cX12_away : ByteArray := prog_14_method_59_code
def yX12_away : MethodName := ⟨RX12, "away", "()Z"⟩
abbrev cX12_hold : ByteArray := prog_14_method_60_code
def yX12_hold : MethodName := ⟨RX12, "hold", "(IZ)Z"⟩
abbrev cX12_isSpan : ByteArray := prog_14_method_61_code
def yX12_isSpan : MethodName := ⟨RX12, "isSpan", "(I)Z"⟩
abbrev cX12_load : ByteArray := prog_14_method_62_code
def yX12_load : MethodName := ⟨RX12, "load", "(III)I"⟩
abbrev cX12_strengthOf : ByteArray := prog_14_method_63_code
def yX12_strengthOf : MethodName := ⟨RX12, "strengthOf", "(IZ)V"⟩
abbrev cX12_hogOf : ByteArray := prog_14_method_64_code
def yX12_hogOf : MethodName := ⟨RX12, "hogOf", "(I)V"⟩
abbrev cX12_less3 : ByteArray := prog_14_method_65_code
def yX12_less3 : MethodName := ⟨RX12, "less3", "(JJJJ)Z"⟩
abbrev cX12_gather : ByteArray := prog_14_method_66_code
def yX12_gather : MethodName := ⟨RX12, "gather", "(II)V"⟩
abbrev cX12_timesOf : ByteArray := prog_14_method_67_code
def yX12_timesOf : MethodName := ⟨RX12, "timesOf", "(II)V"⟩
abbrev cX12_times : ByteArray := prog_14_method_68_code
def yX12_times : MethodName := ⟨RX12, "times", "(II)I"⟩
abbrev cX12_keep : ByteArray := prog_14_method_69_code
def yX12_keep : MethodName := ⟨RX12, "keep", "(II)V"⟩
abbrev cX12_held : ByteArray := prog_14_method_70_code
def yX12_held : MethodName := ⟨RX12, "held", "(I)I"⟩
abbrev cX12_finds : ByteArray := prog_14_method_71_code
def yX12_finds : MethodName := ⟨RX12, "finds", "()Z"⟩
abbrev cX12_factor : ByteArray := prog_14_method_72_code
def yX12_factor : MethodName := ⟨RX12, "factor", "()I"⟩
abbrev cX12_weakest : ByteArray := prog_14_method_73_code
def yX12_weakest : MethodName := ⟨RX12, "weakest", "()I"⟩
def RJ9 : String := "java/lang/Math"
abbrev cJ9_abs_0f7a4 : ByteArray := prog_15_method_59_code
def yJ9_abs_0f7a4 : MethodName := ⟨RJ9, "abs", "(I)I"⟩
abbrev cJ9_abs_067f4 : ByteArray := prog_15_method_61_code
def yJ9_abs_067f4 : MethodName := ⟨RJ9, "abs", "(J)J"⟩
abbrev cJ9_max_7cf53 : ByteArray := prog_15_method_65_code
def yJ9_max_7cf53 : MethodName := ⟨RJ9, "max", "(II)I"⟩
abbrev cJ9_max_f86c9 : ByteArray := prog_15_method_66_code
def yJ9_max_f86c9 : MethodName := ⟨RJ9, "max", "(JJ)J"⟩
abbrev cJ9_min_7cf53 : ByteArray := prog_15_method_69_code
def yJ9_min_7cf53 : MethodName := ⟨RJ9, "min", "(II)I"⟩
abbrev cJ9_min_f86c9 : ByteArray := prog_15_method_70_code
def yJ9_min_f86c9 : MethodName := ⟨RJ9, "min", "(JJ)J"⟩
def RJ10 : String := "java/lang/System"
def RJ7 : String := "java/util/Arrays"
abbrev cJ7_fill_d0a16 : ByteArray := prog_17_method_101_code
def yJ7_fill_d0a16 : MethodName := ⟨RJ7, "fill", "([JJ)V"⟩
abbrev cJ7_fill_53178 : ByteArray := prog_17_method_103_code
def yJ7_fill_53178 : MethodName := ⟨RJ7, "fill", "([II)V"⟩
def RL : String := "RodBeamLaw"
abbrev cL_law : ByteArray := code
def yL_law : MethodName := ⟨RL, "law", "([I)Z"⟩
abbrev vwCl : List vw_C := [(RX0, TX0, 12), (RX1, TX1, 8), (RX2, TX2, 3), (RX3, TX3, 5), (RX4, TX4, 18), (RX5, TX5, 2), (RX6, TX6, 3), (RX7, TX7, 5), (RX8, TX8, 3), (RX9, TX9, 6), (RX10, TX10, 1), (RX11, TX11, 8), (RX12, TX12, 51)]
theorem inX0 : ∀ w ∈ u_ws RX0 TX0 12, w ∈ lw_tbl := by decide +kernel
theorem inX1 : ∀ w ∈ u_ws RX1 TX1 8, w ∈ lw_tbl := by decide +kernel
theorem inX2 : ∀ w ∈ u_ws RX2 TX2 3, w ∈ lw_tbl := by decide +kernel
theorem inX3 : ∀ w ∈ u_ws RX3 TX3 5, w ∈ lw_tbl := by decide +kernel
theorem inX4 : ∀ w ∈ u_ws RX4 TX4 18, w ∈ lw_tbl := by decide +kernel
theorem inX5 : ∀ w ∈ u_ws RX5 TX5 2, w ∈ lw_tbl := by decide +kernel
theorem inX6 : ∀ w ∈ u_ws RX6 TX6 3, w ∈ lw_tbl := by decide +kernel
theorem inX7 : ∀ w ∈ u_ws RX7 TX7 5, w ∈ lw_tbl := by decide +kernel
theorem inX8 : ∀ w ∈ u_ws RX8 TX8 3, w ∈ lw_tbl := by decide +kernel
theorem inX9 : ∀ w ∈ u_ws RX9 TX9 6, w ∈ lw_tbl := by decide +kernel
theorem inX10 : ∀ w ∈ u_ws RX10 TX10 1, w ∈ lw_tbl := by decide +kernel
theorem inX11 : ∀ w ∈ u_ws RX11 TX11 8, w ∈ lw_tbl := by decide +kernel
theorem inX12 : ∀ w ∈ u_ws RX12 TX12 51, w ∈ lw_tbl := by decide +kernel
def fty (ci k : Nat) : FieldType := match ci with
  | 0 => tyX0 k
  | 1 => tyX1 k
  | 2 => tyX2 k
  | 3 => tyX3 k
  | 4 => tyX4 k
  | 5 => tyX5 k
  | 6 => tyX6 k
  | 7 => tyX7 k
  | 8 => tyX8 k
  | 9 => tyX9 k
  | 10 => tyX10 k
  | 11 => tyX11 k
  | _ => tyX12 k
end
section
/-! AN ABSTRACT MACHINE over pure numbers: every value is an Int with a tag (0 int, 1 long, 2 reference), the heap is a function
from (cell, place) to Int beside a list of shapes; cells are numbered as they are made. Fr: a frame's walk; Call: a method's contract. -/
abbrev AV : Type := Nat × Int
abbrev Shp : Type := List (Nat × Nat)
abbrev Mem : Type := Nat → Nat → Int
abbrev MM : Type := MethodName × ByteArray × Nat × Option FieldType
def inI (x : Int) : Prop := -2147483648 ≤ x ∧ x ≤ 2147483647
def inL (x : Int) : Prop := -9223372036854775808 ≤ x ∧ x ≤ 9223372036854775807
def rfv (φ : Nat → Nat) (b : Nat) (x : Int) : Value := if x = -2 then .ref b else if x < 0 then .null else .ref (φ x.toNat)
def toV (φ : Nat → Nat) (b : Nat) (v : AV) : Value := match v.1 with
  | 0 => .int (Int32.ofInt v.2)
  | 1 => .long (Int64.ofInt v.2)
  | _ => rfv φ b v.2
def okV (n : Nat) (v : AV) : Prop := match v.1 with
  | 0 => inI v.2
  | 1 => inL v.2
  | _ => v.2 < n
def ftag (t : FieldType) : Nat := match t with
  | .long => 1
  | .object _ => 2
  | .array _ => 2
  | _ => 0
def tyOk (n : Nat) (t : FieldType) (x : Int) : Prop := match t with
  | .boolean => x = 0 ∨ x = 1
  | .int => inI x
  | .long => inL x
  | .object _ => -1 ≤ x ∧ x < n
  | .array _ => -1 ≤ x ∧ x < n
  | _ => False
def kty (kd k : Nat) : FieldType := if kd < 13 then fty kd k else if kd = 20 then .int else if kd = 21 then .long else if kd = 22 then .boolean else .object ""
def Rng (K : Shp) (H : Mem) : Prop := ∀ (a : Nat) (q : Nat × Nat), K[a]? = some q → ∀ k, k < q.2 → tyOk K.length (kty q.1 k) (H a k)
def refE (φ : Nat → Nat) (x : Int) : Option Nat := if x < 0 then none else some (φ x.toNat)
def cellE (φ : Nat → Nat) (b : Nat) (aC : Nat → ClassId) (q : Nat × Nat) (f : Nat → Int) : va_E :=
  if q.1 < 13 then .inr (q.1, (List.range q.2).map fun k => toV φ b (ftag (fty q.1 k), f k))
  else if q.1 = 21 then .inl (aC 21, q.2, .inr (.inl fun j => Int64.ofInt (f j)))
  else if q.1 = 20 ∨ q.1 = 22 then .inl (aC q.1, q.2, .inl fun j => Int32.ofInt (f j))
  else .inl (aC q.1, q.2, .inr (.inr (.inr (.inr fun j => refE φ (f j)))))
def wsOf (φ : Nat → Nat) (b : Nat) (aC : Nat → ClassId) (K : Shp) (H : Mem) : va_W := K.mapIdx fun a q => (φ a, cellE φ b aC q (H a))
def tysOf (aC : Nat → ClassId) : List (ClassId × FieldType) := [(aC 20, .int), (aC 21, .long), (aC 22, .boolean), (aC 23, .object "RodBeam$Section"), (aC 24, .object "RodBeam$Span")]
def upA (H : Mem) (a : Nat) (f : Nat → Int) : Mem := fun x => if x = a then f else H x
def up1 (f : Nat → Int) (k : Nat) (x : Int) : Nat → Int := fun j => if j = k then x else f j
def lw_good : List Cond := lw_tbl.filter goodWord
def isNest (w : Cond) : Bool := match w with
  | .methodLinkNest _ _ _ _ => true
  | .arrayOver (.object _) => true
  | _ => false
def lw_nest : List Cond := lw_tbl.filter isNest
theorem ws_at {φ : Nat → Nat} {b : Nat} {aC : Nat → ClassId} {K : Shp} {H : Mem} {a : Nat} {q : Nat × Nat} (h : K[a]? = some q) : (wsOf φ b aC K H)[a]? = some (φ a, cellE φ b aC q (H a)) := by
  simp [wsOf, List.getElem?_mapIdx, h]
theorem ws_set {φ : Nat → Nat} {b : Nat} {aC : Nat → ClassId} {K : Shp} {H : Mem} {a : Nat} {q : Nat × Nat} {f : Nat → Int} (h : K[a]? = some q) : (wsOf φ b aC K H).set a (φ a, cellE φ b aC q f) = wsOf φ b aC K (upA H a f) := by
  apply List.ext_getElem?
  intro i
  by_cases hi : i = a
  · subst hi
    obtain ⟨hl, he⟩ := List.getElem?_eq_some_iff.mp h
    simp [wsOf, List.getElem?_mapIdx, upA, List.getElem?_set, hl, he]
  · simp [wsOf, List.getElem?_mapIdx, upA, List.getElem?_set, Ne.symm hi, hi]
theorem range_set {N k : Nat} {f : Nat → Value} {v : Value} : ((List.range N).map f).set k v = (List.range N).map fun j => if j = k then v else f j := by
  apply List.ext_getElem?
  intro i
  by_cases hi : i = k
  · subst hi
    by_cases hl : i < N
    · simp [List.getElem?_set, hl]
    · simp [List.getElem?_set, hl]
  · simp [List.getElem?_set, Ne.symm hi]
    cases h : (List.range N)[i]? with
    | none => rfl
    | some j =>
      have : j = i := by
        have := List.getElem?_eq_some_iff.mp h
        obtain ⟨h1, h2⟩ := this
        rw [List.getElem_range] at h2
        exact h2.symm
      subst this
      simp [hi]
/-- what holds of the machine where a method of ours runs -/
def Cx (M : MM) (sc : Option (Nat × (Nat → Int))) (p : Program) (s : State) (m : MethodId) (args : Array Value) (meth : Method) (c : Code) (base b : Nat) (D : va_G) (aC : Nat → ClassId) : Prop :=
  p.tables.exec = Jvm.exec ∧ c.code = M.2.1 ∧ meth.sig.returnType = M.2.2.2 ∧ c.maxLocals = M.2.2.1 ∧ s.vm.findClass M.1.cls = some m.cls ∧ (∀ w ∈ lw_good, w.before args s = true) ∧ (∀ w ∈ lw_nest, va_Nw w s) ∧
  va_K D vwCl (tysOf aC) s ∧ meth.locks = false ∧ meth.name = M.1.name ∧ base ≤ s.heap.size ∧
  (∀ (L : Nat) (xs : Nat → Int), sc = some (L, xs) → va_X b L (fun j => Int32.ofInt (xs j)) s s.heap ∧ b < s.heap.size ∧ b < base ∧ L < 2147483648 ∧ ∀ j, j < L → inI (xs j))
def Rp (base b : Nat) (D : va_G) (aC : Nat → ClassId) (φ : Nat → Nat) (K : Shp) (H : Mem) (Hp : Heap) : Prop :=
  va_P D vwCl (wsOf φ b aC K H) Hp ∧ va_D (fun q => base ≤ q) (wsOf φ b aC K H) ∧ Rng K H
def RetAt (M : MM) (pc : Nat) (r : Option AV) : Prop :=
  (∃ x, r = some (0, x) ∧ inI x ∧ decode M.2.1 pc = .ok (.ireturn, 1) ∧ (M.2.2.2 = some .int ∨ M.2.2.2 = some .boolean ∧ (x = 0 ∨ x = 1))) ∨
  (∃ x, r = some (1, x) ∧ inL x ∧ decode M.2.1 pc = .ok (.lreturn, 1) ∧ M.2.2.2 = some .long) ∨ (r = none ∧ decode M.2.1 pc = .ok (.return_, 1) ∧ M.2.2.2 = none)
def Ret (M : MM) (p : Program) (l : Launch) (e : Env) (R : Room) (s : State) (m : MethodId) (args : Array Value) (below : List Frame) (meth : Method) (c : Code) (base b : Nat) (D : va_G) (aC : Nat → ClassId) (n0 : Nat) (φ0 : Nat → Nat) (QM : State → Prop) (Q : Option AV → Shp → Mem → Prop) : Prop :=
  ∀ (r : Option AV) (K : Shp) (H : Mem) (φ : Nat → Nat) (Hp : Heap) (locs : List Loc) (cells slots pc : Nat) (ls : Array Slot), Q r K H → Rp base b D aC φ K H Hp → va_S (fun q => base ≤ q) s.heap Hp locs → cells ≤ R.cells → slots ≤ R.slots → n0 ≤ K.length → (∀ a, a < n0 → φ a = φ0 a) → RetAt M pc r →
    W p l e R s m args below meth c Hp locs cells slots QM (F0 m pc ls ((r.map (toV φ b)).toList))
/-- A FRAME of method M at pc, with room for d calls one in another, fc cells and fs slots still to be made: it comes to its end, with Q -/
def Fr (M : MM) (d fc fs : Nat) (sc : Option (Nat × (Nat → Int))) (pc : Nat) (ls : List (Nat × AV)) (st : List AV) (K : Shp) (H : Mem) (Q : Option AV → Shp → Mem → Prop) : Prop :=
  ∀ (p : Program) (l : Launch) (e : Env) (R : Room) (s : State) (m : MethodId) (args : Array Value) (below : List Frame) (meth : Method) (c : Code) (base b : Nat) (D : va_G) (aC : Nat → ClassId) (n0 : Nat) (φ0 φ : Nat → Nat) (Hp : Heap) (locs : List Loc) (cells slots : Nat) (lsA : Array Slot) (QM : State → Prop),
    Cx M sc p s m args meth c base b D aC → d ≤ R.frames → 40 * d ≤ R.locals → cells + fc ≤ R.cells → slots + fs ≤ R.slots →
    Rp base b D aC φ K H Hp → va_S (fun q => base ≤ q) s.heap Hp locs → lv_has lsA M.2.2.1 (ls.map fun q => (q.1, toV φ b q.2)) → (∀ q ∈ ls, okV K.length q.2) → (∀ v ∈ st, okV K.length v) →
    n0 ≤ K.length → (∀ a, a < n0 → φ a = φ0 a) → Ret M p l e R s m args below meth c base b D aC n0 φ0 QM Q →
    W p l e R s m args below meth c Hp locs cells slots QM (F0 m pc lsA (st.map (toV φ b)))
def rmOf (d mc ms : Nat) : Room := { frames := d, cells := mc, slots := ms, locals := 40 * d }
def wsM (M : MM) : List Cond := Cond.code M.1 M.2.1 M.2.2.1 M.2.2.2 :: lw_good
/-- what a method's start and end say -/
def PcM (base b : Nat) (D : va_G) (aC : Nat → ClassId) (φ : Nat → Nat) (args : List AV) (K : Shp) (H : Mem) : Array Value → State → Prop :=
  va_Pc (args.map (toV φ b)) (fun U => (∀ w ∈ lw_nest, va_Nw w U) ∧ va_K D vwCl (tysOf aC) U ∧ base ≤ U.heap.size ∧ Rp base b D aC φ K H U.heap ∧ ∀ v ∈ args, okV K.length v)
def QcM (base b : Nat) (D : va_G) (aC : Nat → ClassId) (φ : Nat → Nat) (K : Shp) (Q : Option AV → Shp → Mem → Prop) : Array Value → State → Outcome → State → Prop :=
  fun _ st oc t => (∃ (r : Option AV) (K' : Shp) (H' : Mem) (φ' : Nat → Nat), oc = .returned (r.map (toV φ' b)) ∧ (∀ v, r = some v → v.1 < 2 ∧ okV 0 v) ∧ Q r K' H' ∧ Rp base b D aC φ' K' H' t.heap ∧ K.length ≤ K'.length ∧ ∀ a, a < K.length → φ' a = φ a) ∧ va_F (fun q => base ≤ q) st t
/-- THE CONTRACT of M at arguments and heap -/
def Call (M : MM) (d mc ms : Nat) (args : List AV) (K : Shp) (H : Mem) (Q : Option AV → Shp → Mem → Prop) : Prop :=
  ∀ (l : Launch) (base b : Nat) (D : va_G) (aC : Nat → ClassId) (φ : Nat → Nat), Met l M.1 (wsM M) (rmOf d mc ms) (PcM base b D aC φ args K H) (QcM base b D aC φ K Q) mc ms (fun q => base ≤ q)
def argL : Nat → List AV → List (Nat × AV)
  | _, [] => []
  | i, v :: vs => (i, v) :: argL (if v.1 = 1 then i + 2 else i + 1) vs
theorem cat_toV (φ : Nat → Nat) (b : Nat) (v : AV) : (toV φ b v).category = if v.1 = 1 then 2 else 1 := by
  obtain ⟨t, x⟩ := v
  match t with
  | 0 => rfl
  | 1 => rfl
  | t + 2 =>
    show (rfv φ b x).category = _
    unfold rfv
    split
    · rfl
    · split <;> rfl
theorem argL_eq (φ : Nat → Nat) (b : Nat) (vs : List AV) : ∀ i, lv_args i (vs.map (toV φ b)) = (argL i vs).map fun q => (q.1, toV φ b q.2) := by
  induction vs with
  | nil => intro i; rfl
  | cons v vs ih =>
    intro i
    have hc := cat_toV φ b v
    by_cases h : v.1 = 1
    · rw [if_pos h] at hc
      simp [lv_args, argL, h, hc, ih]
    · rw [if_neg h] at hc
      simp [lv_args, argL, h, hc, ih]
theorem argL_mem (vs : List AV) : ∀ i q, q ∈ argL i vs → q.2 ∈ vs := by
  induction vs with
  | nil => intro i q h; cases h
  | cons v vs ih =>
    intro i q h
    rcases List.mem_cons.mp h with rfl | h
    · exact List.mem_cons_self
    · exact List.mem_cons_of_mem _ (ih _ _ h)
def wid (vs : List AV) : Nat := (vs.map fun v => if v.1 = 1 then 2 else 1).sum
theorem wid_eq (φ : Nat → Nat) (b : Nat) (vs : List AV) : (lg_sl (vs.map (toV φ b))).length = wid vs := by
  induction vs with
  | nil => rfl
  | cons v vs ih =>
    have hc := cat_toV φ b v
    by_cases h : v.1 = 1
    · rw [if_pos h] at hc
      simp [lg_sl, wid, h, hc] at ih ⊢
      omega
    · rw [if_neg h] at hc
      simp [lg_sl, wid, h, hc] at ih ⊢
      omega
end
section
/-! RULES: a frame one instruction on -/
theorem i_toInt {x : Int} (h : inI x) : (Int32.ofInt x).toInt = x := Int32.toInt_ofInt_of_le (by have := h.1; omega) (by have := h.2; omega)
theorem l_toInt {x : Int} (h : inL x) : (Int64.ofInt x).toInt = x := Int64.toInt_ofInt_of_le (by have := h.1; omega) (by have := h.2; omega)
theorem i_lt {x y : Int} (hx : inI x) (hy : inI y) : Int32.ofInt x < Int32.ofInt y ↔ x < y := by rw [Int32.lt_iff_toInt_lt, i_toInt hx, i_toInt hy]
theorem i_le {x y : Int} (hx : inI x) (hy : inI y) : Int32.ofInt x ≤ Int32.ofInt y ↔ x ≤ y := by rw [Int32.le_iff_toInt_le, i_toInt hx, i_toInt hy]
theorem i_eq {x y : Int} (hx : inI x) (hy : inI y) : Int32.ofInt x = Int32.ofInt y ↔ x = y := by rw [← Int32.toInt_inj, i_toInt hx, i_toInt hy]
theorem l_lt {x y : Int} (hx : inL x) (hy : inL y) : Int64.ofInt x < Int64.ofInt y ↔ x < y := by rw [Int64.lt_iff_toInt_lt, l_toInt hx, l_toInt hy]
theorem l_eq {x y : Int} (hx : inL x) (hy : inL y) : Int64.ofInt x = Int64.ofInt y ↔ x = y := by rw [← Int64.toInt_inj, l_toInt hx, l_toInt hy]
theorem i_zero : inI 0 := ⟨by decide, by decide⟩
theorem i_in {x : Int} {n : Nat} (hx : inI x) (h0 : 0 ≤ x) (h1 : x < n) : vp_in (Int32.ofInt x) n := by
  rw [vp_in_iff, i_toInt hx]
  exact ⟨h0, h1⟩
theorem i_clamp {x : Int} (hx : inI x) : (Int32.ofInt x).toNatClampNeg = x.toNat := by
  rw [← Int32.toNat_toInt, i_toInt hx]
section Rules
variable {M : MM} {d fc fs : Nat} {sc : Option (Nat × (Nat → Int))} {pc : Nat} {ls : List (Nat × AV)} {st : List AV} {K : Shp} {H : Mem} {Q : Option AV → Shp → Mem → Prop}
/-- a step that looks at the stack alone -/
theorem Fr.pure {pc' : Nat} {st1 st2 : List AV} (k : Fr M d fc fs sc pc' ls st2 K H Q) (ho : (∀ v ∈ st1, okV K.length v) → ∀ v ∈ st2, okV K.length v)
    (hw : ∀ {p : Program} {l : Launch} {e : Env} {R : Room} {s : State} {m : MethodId} {args : Array Value} {below : List Frame} {meth : Method} {c : Code} {Hp : Heap} {locs : List Loc} {cells slots : Nat} {QM : State → Prop} (φ : Nat → Nat) (b : Nat) (lsA : Array Slot), p.tables.exec = Jvm.exec → c.code = M.2.1 → s.vm.findClass M.1.cls = some m.cls → (∀ w ∈ lw_good, w.before args s = true) → (∀ v ∈ st1, okV K.length v) →
      W p l e R s m args below meth c Hp locs cells slots QM (F0 m pc' lsA (st2.map (toV φ b))) → W p l e R s m args below meth c Hp locs cells slots QM (F0 m pc lsA (st1.map (toV φ b)))) : Fr M d fc fs sc pc ls st1 K H Q := by
  intro p l e R s m args below meth c base b D aC n0 φ0 φ Hp locs cells slots lsA QM hC hR1 hR2 hc1 hc2 hP hS hl hlo hso hn hag hret
  exact hw φ b lsA hC.1 hC.2.1 hC.2.2.2.2.1 hC.2.2.2.2.2.1 hso (k p l e R s m args below meth c base b D aC n0 φ0 φ Hp locs cells slots lsA QM hC hR1 hR2 hc1 hc2 hP hS hl hlo (ho hso) hn hag hret)
theorem ok_push {n : Nat} {v : AV} {st : List AV} (hv : okV n v) (h : ∀ x ∈ st, okV n x) : ∀ x ∈ v :: st, okV n x := fun x hx => (List.mem_cons.mp hx).elim (fun e => e ▸ hv) (h x)
theorem ok_1 {n : Nat} {v : AV} {st : List AV} (h : ∀ x ∈ v :: st, okV n x) : okV n v ∧ ∀ x ∈ st, okV n x := ⟨h v List.mem_cons_self, fun x hx => h x (List.mem_cons_of_mem _ hx)⟩
theorem ok_2 {n : Nat} {v w : AV} {st : List AV} (h : ∀ x ∈ v :: w :: st, okV n x) : okV n v ∧ okV n w ∧ ∀ x ∈ st, okV n x := ⟨(ok_1 h).1, ok_1 (ok_1 h).2⟩
/-- constants -/
theorem r_iconst {x : Int} (hd : decode M.2.1 pc = .ok (.iconst x, 1)) (h1 : -2147483648 ≤ x) (h2 : x ≤ 2147483647) (k : Fr M d fc fs sc (pc + 1) ls ((0, x) :: st) K H Q) : Fr M d fc fs sc pc ls st K H Q :=
  Fr.pure k (ok_push ⟨h1, h2⟩) (fun φ b lsA hx hb _ _ _ w => lv_iconst hx hb hd rfl w)
theorem r_bipush {x : Int} (hd : decode M.2.1 pc = .ok (.bipush x, 2)) (h1 : -128 ≤ x) (h2 : x ≤ 127) (k : Fr M d fc fs sc (pc + 2) ls ((0, x) :: st) K H Q) : Fr M d fc fs sc pc ls st K H Q :=
  Fr.pure k (ok_push (⟨by omega, by omega⟩ : inI x)) (fun φ b lsA hx hb _ _ _ w => lv_bipush hx hb hd (by
    rw [← Int32.ofInt_int8ToInt, Int8.toInt_ofInt_of_le (by omega) (by omega)]) w)
theorem r_sipush {x : Int} (hd : decode M.2.1 pc = .ok (.sipush x, 3)) (h1 : -32768 ≤ x) (h2 : x ≤ 32767) (k : Fr M d fc fs sc (pc + 3) ls ((0, x) :: st) K H Q) : Fr M d fc fs sc pc ls st K H Q :=
  Fr.pure k (ok_push (⟨by omega, by omega⟩ : inI x)) (fun φ b lsA hx hb _ _ _ w => lv_sipush hx hb hd (by
    rw [← Int32.ofInt_int16ToInt, Int16.toInt_ofInt_of_le (by omega) (by omega)]) w)
theorem r_lconst0 (hd : decode M.2.1 pc = .ok (.lconst 0, 1)) (k : Fr M d fc fs sc (pc + 1) ls ((1, 0) :: st) K H Q) : Fr M d fc fs sc pc ls st K H Q :=
  Fr.pure k (ok_push (⟨by decide, by decide⟩ : inL 0)) (fun φ b lsA hx hb _ _ _ w => lv_lconst hx hb hd rfl w)
theorem r_lconst1 (hd : decode M.2.1 pc = .ok (.lconst 1, 1)) (k : Fr M d fc fs sc (pc + 1) ls ((1, 1) :: st) K H Q) : Fr M d fc fs sc pc ls st K H Q :=
  Fr.pure k (ok_push (⟨by decide, by decide⟩ : inL 1)) (fun φ b lsA hx hb _ _ _ w => lv_lconst hx hb hd rfl w)
theorem r_ldc {i : Nat} {x : Int} (hd : decode M.2.1 pc = .ok (.ldc i, 2)) (hw : Cond.constant M.1.cls i (Int32.ofInt x) ∈ lw_good) (h1 : -2147483648 ≤ x) (h2 : x ≤ 2147483647) (k : Fr M d fc fs sc (pc + 2) ls ((0, x) :: st) K H Q) : Fr M d fc fs sc pc ls st K H Q :=
  Fr.pure k (ok_push ⟨h1, h2⟩) (fun φ b lsA hx hb ho hts _ w => lv_ldc hx hb ho (hts _ hw) hd w)
theorem r_ldc2 {i : Nat} {x : Int} (hd : decode M.2.1 pc = .ok (.ldc2_w i, 3)) (hw : Cond.constantLong M.1.cls i (Int64.ofInt x) ∈ lw_good) (h1 : -9223372036854775808 ≤ x) (h2 : x ≤ 9223372036854775807) (k : Fr M d fc fs sc (pc + 3) ls ((1, x) :: st) K H Q) : Fr M d fc fs sc pc ls st K H Q :=
  Fr.pure k (ok_push ⟨h1, h2⟩) (fun φ b lsA hx hb ho hts _ w => lv_ldc2 hx hb ho (hts _ hw) hd w)
/-- int and long arithmetic -/
theorem r_iadd {x y : Int} (hd : decode M.2.1 pc = .ok (.iadd, 1)) (h : inI (x + y)) (k : Fr M d fc fs sc (pc + 1) ls ((0, x + y) :: st) K H Q) : Fr M d fc fs sc pc ls ((0, y) :: (0, x) :: st) K H Q :=
  Fr.pure k (fun o => ok_push h (ok_2 o).2.2) (fun φ b lsA hx hb _ _ _ w => lv_iadd hx hb hd (by
    rw [← Int32.ofInt_add]; exact w))
theorem r_isub {x y : Int} (hd : decode M.2.1 pc = .ok (.isub, 1)) (h : inI (x - y)) (k : Fr M d fc fs sc (pc + 1) ls ((0, x - y) :: st) K H Q) : Fr M d fc fs sc pc ls ((0, y) :: (0, x) :: st) K H Q :=
  Fr.pure k (fun o => ok_push h (ok_2 o).2.2) (fun φ b lsA hx hb _ _ _ w => lv_isub hx hb hd (by
    rw [← Int32.ofInt_sub]; exact w))
theorem r_imul {x y : Int} (hd : decode M.2.1 pc = .ok (.imul, 1)) (h : inI (x * y)) (k : Fr M d fc fs sc (pc + 1) ls ((0, x * y) :: st) K H Q) : Fr M d fc fs sc pc ls ((0, y) :: (0, x) :: st) K H Q :=
  Fr.pure k (fun o => ok_push h (ok_2 o).2.2) (fun φ b lsA hx hb _ _ _ w => lv_imul hx hb hd (by
    rw [← Int32.ofInt_mul]; exact w))
theorem r_ineg {x : Int} (hd : decode M.2.1 pc = .ok (.ineg, 1)) (h : inI (-x)) (k : Fr M d fc fs sc (pc + 1) ls ((0, -x) :: st) K H Q) : Fr M d fc fs sc pc ls ((0, x) :: st) K H Q :=
  Fr.pure k (fun o => ok_push h (ok_1 o).2) (fun φ b lsA hx hb _ _ _ w => lv_ineg hx hb hd (by
    rw [← Int32.ofInt_neg]; exact w))
theorem r_ladd {x y : Int} (hd : decode M.2.1 pc = .ok (.ladd, 1)) (h : inL (x + y)) (k : Fr M d fc fs sc (pc + 1) ls ((1, x + y) :: st) K H Q) : Fr M d fc fs sc pc ls ((1, y) :: (1, x) :: st) K H Q :=
  Fr.pure k (fun o => ok_push h (ok_2 o).2.2) (fun φ b lsA hx hb _ _ _ w => lv_ladd hx hb hd (by
    rw [← Int64.ofInt_add]; exact w))
theorem r_lsub {x y : Int} (hd : decode M.2.1 pc = .ok (.lsub, 1)) (h : inL (x - y)) (k : Fr M d fc fs sc (pc + 1) ls ((1, x - y) :: st) K H Q) : Fr M d fc fs sc pc ls ((1, y) :: (1, x) :: st) K H Q :=
  Fr.pure k (fun o => ok_push h (ok_2 o).2.2) (fun φ b lsA hx hb _ _ _ w => lv_lsub hx hb hd (by
    rw [← Int64.ofInt_sub]; exact w))
theorem r_lmul {x y : Int} (hd : decode M.2.1 pc = .ok (.lmul, 1)) (h : inL (x * y)) (k : Fr M d fc fs sc (pc + 1) ls ((1, x * y) :: st) K H Q) : Fr M d fc fs sc pc ls ((1, y) :: (1, x) :: st) K H Q :=
  Fr.pure k (fun o => ok_push h (ok_2 o).2.2) (fun φ b lsA hx hb _ _ _ w => lv_lmul hx hb hd (by
    rw [← Int64.ofInt_mul]; exact w))
theorem r_lneg {x : Int} (hd : decode M.2.1 pc = .ok (.lneg, 1)) (h : inL (-x)) (k : Fr M d fc fs sc (pc + 1) ls ((1, -x) :: st) K H Q) : Fr M d fc fs sc pc ls ((1, x) :: st) K H Q :=
  Fr.pure k (fun o => ok_push h (ok_1 o).2) (fun φ b lsA hx hb _ _ _ w => lv_lneg hx hb hd (by
    rw [← Int64.ofInt_neg]; exact w))
theorem i_ne0 {y : Int} (hy : inI y) (h : y ≠ 0) : ¬ Int32.ofInt y = 0 := fun q => h ((i_eq hy i_zero).mp q)
theorem l_ne0 {y : Int} (hy : inL y) (h : y ≠ 0) : ¬ Int64.ofInt y = 0 := fun q => h ((l_eq hy ⟨by decide, by decide⟩).mp q)
theorem i_div {x y : Int} (hx : inI x) (hy : inI y) : Int32.ofInt x / Int32.ofInt y = Int32.ofInt (x.tdiv y) := (Int32.ofInt_tdiv hx.1 hx.2 hy.1 hy.2).symm
theorem l_div {x y : Int} (hx : inL x) (hy : inL y) : Int64.ofInt x / Int64.ofInt y = Int64.ofInt (x.tdiv y) := (Int64.ofInt_tdiv hx.1 hx.2 hy.1 hy.2).symm
theorem i_rem {x y : Int} (hx : inI x) (hy : inI y) : Int32.ofInt x - Int32.ofInt x / Int32.ofInt y * Int32.ofInt y = Int32.ofInt (x.tmod y) := by
  rw [i_div hx hy, ← Int32.ofInt_mul, ← Int32.ofInt_sub, Int.tmod_def, Int.mul_comm]
theorem l_rem {x y : Int} (hx : inL x) (hy : inL y) : Int64.ofInt x - Int64.ofInt x / Int64.ofInt y * Int64.ofInt y = Int64.ofInt (x.tmod y) := by
  rw [l_div hx hy, ← Int64.ofInt_mul, ← Int64.ofInt_sub, Int.tmod_def, Int.mul_comm]
theorem r_idiv {x y : Int} (hd : decode M.2.1 pc = .ok (.idiv, 1)) (hy : y ≠ 0) (h : inI (x.tdiv y)) (k : Fr M d fc fs sc (pc + 1) ls ((0, x.tdiv y) :: st) K H Q) : Fr M d fc fs sc pc ls ((0, y) :: (0, x) :: st) K H Q :=
  Fr.pure k (fun o => ok_push h (ok_2 o).2.2) (fun φ b lsA hx hb _ _ o w => lv_idiv hx hb hd (i_ne0 (ok_2 o).1 hy) (by
    rw [i_div (ok_2 o).2.1 (ok_2 o).1]; exact w))
theorem r_irem {x y : Int} (hd : decode M.2.1 pc = .ok (.irem, 1)) (hy : y ≠ 0) (h : inI (x.tmod y)) (k : Fr M d fc fs sc (pc + 1) ls ((0, x.tmod y) :: st) K H Q) : Fr M d fc fs sc pc ls ((0, y) :: (0, x) :: st) K H Q :=
  Fr.pure k (fun o => ok_push h (ok_2 o).2.2) (fun φ b lsA hx hb _ _ o w => lv_irem hx hb hd (i_ne0 (ok_2 o).1 hy) (by
    rw [i_rem (ok_2 o).2.1 (ok_2 o).1]; exact w))
theorem r_ldiv {x y : Int} (hd : decode M.2.1 pc = .ok (.ldiv, 1)) (hy : y ≠ 0) (h : inL (x.tdiv y)) (k : Fr M d fc fs sc (pc + 1) ls ((1, x.tdiv y) :: st) K H Q) : Fr M d fc fs sc pc ls ((1, y) :: (1, x) :: st) K H Q :=
  Fr.pure k (fun o => ok_push h (ok_2 o).2.2) (fun φ b lsA hx hb _ _ o w => lv_ldiv hx hb hd (l_ne0 (ok_2 o).1 hy) (by
    rw [l_div (ok_2 o).2.1 (ok_2 o).1]; exact w))
theorem r_lrem {x y : Int} (hd : decode M.2.1 pc = .ok (.lrem, 1)) (hy : y ≠ 0) (h : inL (x.tmod y)) (k : Fr M d fc fs sc (pc + 1) ls ((1, x.tmod y) :: st) K H Q) : Fr M d fc fs sc pc ls ((1, y) :: (1, x) :: st) K H Q :=
  Fr.pure k (fun o => ok_push h (ok_2 o).2.2) (fun φ b lsA hx hb _ _ o w => lv_lrem hx hb hd (l_ne0 (ok_2 o).1 hy) (by
    rw [l_rem (ok_2 o).2.1 (ok_2 o).1]; exact w))
theorem r_i2l {x : Int} (hd : decode M.2.1 pc = .ok (.i2l, 1)) (k : Fr M d fc fs sc (pc + 1) ls ((1, x) :: st) K H Q) : Fr M d fc fs sc pc ls ((0, x) :: st) K H Q :=
  Fr.pure k (fun o => ok_push (by have h : inI x := (ok_1 o).1; exact ⟨by have := h.1; omega, by have := h.2; omega⟩ : inL x) (ok_1 o).2) (fun φ b lsA hx hb _ _ o w => lv_i2l hx hb hd (by
    have h : inI x := (ok_1 o).1
    rw [← Int64.ofInt_int32ToInt, i_toInt h]) w)
theorem r_l2i {x : Int} (hd : decode M.2.1 pc = .ok (.l2i, 1)) (h : inI x) (k : Fr M d fc fs sc (pc + 1) ls ((0, x) :: st) K H Q) : Fr M d fc fs sc pc ls ((1, x) :: st) K H Q :=
  Fr.pure k (fun o => ok_push h (ok_1 o).2) (fun φ b lsA hx hb _ _ o w => lv_l2i hx hb hd (by rw [Int64.toInt32_ofInt]) w)
theorem r_i2c {x : Int} (hd : decode M.2.1 pc = .ok (.i2c, 1)) (h0 : 0 ≤ x) (h1 : x < 65536) (k : Fr M d fc fs sc (pc + 1) ls ((0, x) :: st) K H Q) : Fr M d fc fs sc pc ls ((0, x) :: st) K H Q :=
  Fr.pure k (fun o => o) (fun φ b lsA hx hb _ _ o w => lv_i2c hx hb hd (by
    obtain ⟨n, rfl⟩ := Int.eq_ofNat_of_zero_le h0
    have e : Int32.ofInt (n : Int) = nI n := Int32.ofInt_eq_ofNat
    rw [pk_char, e, pk_tn (by omega), Nat.mod_eq_of_lt (by omega)]) w)
/-- the stack -/
theorem cat1 {φ : Nat → Nat} {b : Nat} {v : AV} (h : v.1 ≠ 1) : (toV φ b v).category = 1 := by rw [cat_toV, if_neg h]
theorem r_dup {v : AV} (hd : decode M.2.1 pc = .ok (.dup, 1)) (h : v.1 ≠ 1) (k : Fr M d fc fs sc (pc + 1) ls (v :: v :: st) K H Q) : Fr M d fc fs sc pc ls (v :: st) K H Q :=
  Fr.pure k (fun o => ok_push (ok_1 o).1 o) (fun φ b lsA hx hb _ _ _ w => lv_dup hx hb hd (cat1 h) w)
theorem r_dup2 {v w : AV} (hd : decode M.2.1 pc = .ok (.dup2, 1)) (h : v.1 ≠ 1) (h' : w.1 ≠ 1) (k : Fr M d fc fs sc (pc + 1) ls (v :: w :: v :: w :: st) K H Q) : Fr M d fc fs sc pc ls (v :: w :: st) K H Q :=
  Fr.pure k (fun o => ok_push (ok_2 o).1 (ok_push (ok_2 o).2.1 o)) (fun φ b lsA hx hb _ _ _ w => lv_dup2_11 hx hb hd (cat1 h) (cat1 h') w)
theorem r_pop {v : AV} (hd : decode M.2.1 pc = .ok (.pop, 1)) (h : v.1 ≠ 1) (k : Fr M d fc fs sc (pc + 1) ls st K H Q) : Fr M d fc fs sc pc ls (v :: st) K H Q :=
  Fr.pure k (fun o => (ok_1 o).2) (fun φ b lsA hx hb _ _ _ w => lv_pop hx hb hd (cat1 h) w)
theorem r_goto {off : Int} {tgt : Nat} (hd : decode M.2.1 pc = .ok (.goto off, 3)) (ht : (pc : Int) + off = (tgt : Int)) (k : Fr M d fc fs sc tgt ls st K H Q) : Fr M d fc fs sc pc ls st K H Q :=
  Fr.pure k (fun o => o) (fun φ b lsA hx hb _ _ _ w => lv_goto hx hb hd ht w)
end Rules
end
section
/-! RULES, second part: locals, branches, fields, arrays -/
section Rules2
variable {M : MM} {d fc fs : Nat} {sc : Option (Nat × (Nat → Int))} {pc : Nat} {ls : List (Nat × AV)} {st : List AV} {K : Shp} {H : Mem} {Q : Option AV → Shp → Mem → Prop}
theorem lv_mem {φ : Nat → Nat} {b nL : Nat} {lsA : Array Slot} {ls : List (Nat × AV)} {i : Nat} {v : AV} (h : lv_has lsA nL (ls.map fun q => (q.1, toV φ b q.2))) (hm : (i, v) ∈ ls) : lsA[i]? = some (.val (toV φ b v)) :=
  h.2.2 (i, toV φ b v) (List.mem_map.mpr ⟨(i, v), hm, rfl⟩)
/-- a load: i has been read -/
theorem Fr.load {pc' i : Nat} {v : AV} (hm : (i, v) ∈ ls) (k : Fr M d fc fs sc pc' ls (v :: st) K H Q)
    (hw : ∀ {p : Program} {l : Launch} {e : Env} {R : Room} {s : State} {m : MethodId} {args : Array Value} {below : List Frame} {meth : Method} {c : Code} {Hp : Heap} {locs : List Loc} {cells slots : Nat} {QM : State → Prop} (φ : Nat → Nat) (b : Nat) (lsA : Array Slot), p.tables.exec = Jvm.exec → c.code = M.2.1 → lsA[i]? = some (.val (toV φ b v)) →
      W p l e R s m args below meth c Hp locs cells slots QM (F0 m pc' lsA (toV φ b v :: st.map (toV φ b))) → W p l e R s m args below meth c Hp locs cells slots QM (F0 m pc lsA (st.map (toV φ b)))) : Fr M d fc fs sc pc ls st K H Q := by
  intro p l e R s m args below meth c base b D aC n0 φ0 φ Hp locs cells slots lsA QM hC hR1 hR2 hc1 hc2 hP hS hl hlo hso hn hag hret
  exact hw φ b lsA hC.1 hC.2.1 (lv_mem hl hm) (k p l e R s m args below meth c base b D aC n0 φ0 φ Hp locs cells slots lsA QM hC hR1 hR2 hc1 hc2 hP hS hl hlo (ok_push (hlo _ hm) hso) hn hag hret)
theorem mem_at {α : Type} {l : List α} {j : Nat} {x : α} (h : l[j]? = some x) : x ∈ l := List.mem_of_getElem? h
theorem r_iload {i : Nat} {x : Int} (j : Nat) (hd : decode M.2.1 pc = .ok (.iload i, 2)) (hm : ls[j]? = some (i, (0, x))) (k : Fr M d fc fs sc (pc + 2) ls ((0, x) :: st) K H Q) : Fr M d fc fs sc pc ls st K H Q :=
  Fr.load (mem_at hm) k fun φ b lsA hx hb hl w => lv_iload hx hb hd hl w
theorem r_iload_n {n : Fin 4} {i : Nat} {x : Int} (j : Nat) (hd : decode M.2.1 pc = .ok (.iload_n n, 1)) (hi : (n : Nat) = i) (hm : ls[j]? = some (i, (0, x))) (k : Fr M d fc fs sc (pc + 1) ls ((0, x) :: st) K H Q) : Fr M d fc fs sc pc ls st K H Q :=
  Fr.load (mem_at hm) k fun φ b lsA hx hb hl w => lv_iload_n hx hb hd hi hl w
theorem r_lload {i : Nat} {x : Int} (j : Nat) (hd : decode M.2.1 pc = .ok (.lload i, 2)) (hm : ls[j]? = some (i, (1, x))) (k : Fr M d fc fs sc (pc + 2) ls ((1, x) :: st) K H Q) : Fr M d fc fs sc pc ls st K H Q :=
  Fr.load (mem_at hm) k fun φ b lsA hx hb hl w => lv_lload hx hb hd hl w
theorem r_lload_n {n : Fin 4} {i : Nat} {x : Int} (j : Nat) (hd : decode M.2.1 pc = .ok (.lload_n n, 1)) (hi : (n : Nat) = i) (hm : ls[j]? = some (i, (1, x))) (k : Fr M d fc fs sc (pc + 1) ls ((1, x) :: st) K H Q) : Fr M d fc fs sc pc ls st K H Q :=
  Fr.load (mem_at hm) k fun φ b lsA hx hb hl w => lv_lload_n hx hb hd hi hl w
theorem r_aload {i : Nat} {x : Int} (j : Nat) (hd : decode M.2.1 pc = .ok (.aload i, 2)) (hm : ls[j]? = some (i, (2, x))) (k : Fr M d fc fs sc (pc + 2) ls ((2, x) :: st) K H Q) : Fr M d fc fs sc pc ls st K H Q :=
  Fr.load (mem_at hm) k fun φ b lsA hx hb hl w => by
    change lsA[i]? = some (.val (rfv φ b x)) at hl
    change W _ _ _ _ _ _ _ _ _ _ _ _ _ _ _ (F0 _ _ _ (rfv φ b x :: _)) at w
    unfold rfv at hl w
    split at hl
    · rw [if_pos (by assumption)] at w; exact lv_aload hx hb hd hl w
    · rw [if_neg (by assumption)] at w
      split at hl
      · rw [if_pos (by assumption)] at w; exact lv_aloadN hx hb hd hl w
      · rw [if_neg (by assumption)] at w; exact lv_aload hx hb hd hl w
theorem r_aload_n {n : Fin 4} {i : Nat} {x : Int} (j : Nat) (hd : decode M.2.1 pc = .ok (.aload_n n, 1)) (hi : (n : Nat) = i) (hm : ls[j]? = some (i, (2, x))) (k : Fr M d fc fs sc (pc + 1) ls ((2, x) :: st) K H Q) : Fr M d fc fs sc pc ls st K H Q :=
  Fr.load (mem_at hm) k fun φ b lsA hx hb hl w => by
    change lsA[i]? = some (.val (rfv φ b x)) at hl
    change W _ _ _ _ _ _ _ _ _ _ _ _ _ _ _ (F0 _ _ _ (rfv φ b x :: _)) at w
    unfold rfv at hl w
    split at hl
    · rw [if_pos (by assumption)] at w; exact lv_aload_n hx hb hd hi hl w
    · rw [if_neg (by assumption)] at w
      split at hl
      · rw [if_pos (by assumption)] at w; exact lv_aload_nN hx hb hd hi hl w
      · rw [if_neg (by assumption)] at w; exact lv_aload_n hx hb hd hi hl w
/-- what stays of the locals behind a store at i -/
def cut1 (i : Nat) (ls : List (Nat × AV)) : List (Nat × AV) := ls.filter fun q => !(q.1 == i) && !(q.1 + 1 == i && q.2.1 == 1)
def cut2 (i : Nat) (ls : List (Nat × AV)) : List (Nat × AV) := ls.filter fun q => !(q.1 == i) && (!(q.1 == i + 1) && !(q.1 + 1 == i && q.2.1 == 1))
theorem cat2 (φ : Nat → Nat) (b : Nat) (v : AV) : ((toV φ b v).category == 2) = (v.1 == 1) := by
  rw [cat_toV]
  by_cases h : v.1 = 1
  · simp [h]
  · simp [h]
theorem cut1_eq (φ : Nat → Nat) (b i : Nat) (v : AV) (ls : List (Nat × AV)) : (i, toV φ b v) :: (ls.map fun q => (q.1, toV φ b q.2)).filter (fun q => !(q.1 == i) && !(q.1 + 1 == i && q.2.category == 2)) = ((i, v) :: cut1 i ls).map fun q => (q.1, toV φ b q.2) := by
  simp only [cut1, List.map_cons, List.filter_map, Function.comp_def, cat2]
theorem cut2_eq (φ : Nat → Nat) (b i : Nat) (v : AV) (ls : List (Nat × AV)) : (i, toV φ b v) :: (ls.map fun q => (q.1, toV φ b q.2)).filter (fun q => !(q.1 == i) && (!(q.1 == i + 1) && !(q.1 + 1 == i && q.2.category == 2))) = ((i, v) :: cut2 i ls).map fun q => (q.1, toV φ b q.2) := by
  simp only [cut2, List.map_cons, List.filter_map, Function.comp_def, cat2]
theorem Fr.store {pc' i : Nat} {v : AV} {ls' : List (Nat × AV)} (cut : Nat → List (Nat × AV) → List (Nat × AV)) (hcut : ∀ q, q ∈ cut i ls → q ∈ ls) (he : (i, v) :: cut i ls = ls') (k : Fr M d fc fs sc pc' ls' st K H Q)
    (hw : ∀ {p : Program} {l : Launch} {e : Env} {R : Room} {s : State} {m : MethodId} {args : Array Value} {below : List Frame} {meth : Method} {c : Code} {Hp : Heap} {locs : List Loc} {cells slots : Nat} {QM : State → Prop} (φ : Nat → Nat) (b : Nat) (lsA : Array Slot), p.tables.exec = Jvm.exec → c.code = M.2.1 → lv_has lsA M.2.2.1 (ls.map fun q => (q.1, toV φ b q.2)) →
      (∀ lsB : Array Slot, lv_has lsB M.2.2.1 (((i, v) :: cut i ls).map fun q => (q.1, toV φ b q.2)) → W p l e R s m args below meth c Hp locs cells slots QM (F0 m pc' lsB (st.map (toV φ b)))) → W p l e R s m args below meth c Hp locs cells slots QM (F0 m pc lsA (toV φ b v :: st.map (toV φ b)))) : Fr M d fc fs sc pc ls (v :: st) K H Q := by
  intro p l e R s m args below meth c base b D aC n0 φ0 φ Hp locs cells slots lsA QM hC hR1 hR2 hc1 hc2 hP hS hl hlo hso hn hag hret
  subst he
  exact hw φ b lsA hC.1 hC.2.1 hl fun lsB hlB => k p l e R s m args below meth c base b D aC n0 φ0 φ Hp locs cells slots lsB QM hC hR1 hR2 hc1 hc2 hP hS hlB (fun q hq => (List.mem_cons.mp hq).elim (fun e => by rw [e]; exact (ok_1 hso).1) (fun h => hlo q (hcut q h))) (ok_1 hso).2 hn hag hret
theorem cut1_in (i : Nat) (ls : List (Nat × AV)) : ∀ q, q ∈ cut1 i ls → q ∈ ls := fun _ h => (List.mem_filter.mp h).1
theorem cut2_in (i : Nat) (ls : List (Nat × AV)) : ∀ q, q ∈ cut2 i ls → q ∈ ls := fun _ h => (List.mem_filter.mp h).1
theorem r_istore {i : Nat} {x : Int} {ls' : List (Nat × AV)} (hd : decode M.2.1 pc = .ok (.istore i, 2)) (hn : i < M.2.2.1) (he : (i, (0, x)) :: cut1 i ls = ls') (k : Fr M d fc fs sc (pc + 2) ls' st K H Q) : Fr M d fc fs sc pc ls ((0, x) :: st) K H Q :=
  Fr.store cut1 (cut1_in i ls) he k fun φ b lsA hx hb hl w => lv_istore hx hb hd hl hn (cut1_eq φ b i (0, x) ls) w
theorem r_istore_n {n : Fin 4} {i : Nat} {x : Int} {ls' : List (Nat × AV)} (hd : decode M.2.1 pc = .ok (.istore_n n, 1)) (hi : (n : Nat) = i) (hn : i < M.2.2.1) (he : (i, (0, x)) :: cut1 i ls = ls') (k : Fr M d fc fs sc (pc + 1) ls' st K H Q) : Fr M d fc fs sc pc ls ((0, x) :: st) K H Q :=
  Fr.store cut1 (cut1_in i ls) he k fun φ b lsA hx hb hl w => lv_istore_n hx hb hd hi hl hn (cut1_eq φ b i (0, x) ls) w
theorem r_lstore {i : Nat} {x : Int} {ls' : List (Nat × AV)} (hd : decode M.2.1 pc = .ok (.lstore i, 2)) (hn : i + 1 < M.2.2.1) (he : (i, (1, x)) :: cut2 i ls = ls') (k : Fr M d fc fs sc (pc + 2) ls' st K H Q) : Fr M d fc fs sc pc ls ((1, x) :: st) K H Q :=
  Fr.store cut2 (cut2_in i ls) he k fun φ b lsA hx hb hl w => lv_lstore hx hb hd hl hn (cut2_eq φ b i (1, x) ls) w
theorem r_lstore_n {n : Fin 4} {i : Nat} {x : Int} {ls' : List (Nat × AV)} (hd : decode M.2.1 pc = .ok (.lstore_n n, 1)) (hi : (n : Nat) = i) (hn : i + 1 < M.2.2.1) (he : (i, (1, x)) :: cut2 i ls = ls') (k : Fr M d fc fs sc (pc + 1) ls' st K H Q) : Fr M d fc fs sc pc ls ((1, x) :: st) K H Q :=
  Fr.store cut2 (cut2_in i ls) he k fun φ b lsA hx hb hl w => lv_lstore_n hx hb hd hi hl hn (cut2_eq φ b i (1, x) ls) w
theorem r_astore {i : Nat} {x : Int} {ls' : List (Nat × AV)} (hd : decode M.2.1 pc = .ok (.astore i, 2)) (hn : i < M.2.2.1) (he : (i, (2, x)) :: cut1 i ls = ls') (k : Fr M d fc fs sc (pc + 2) ls' st K H Q) : Fr M d fc fs sc pc ls ((2, x) :: st) K H Q :=
  Fr.store cut1 (cut1_in i ls) he k fun φ b lsA hx hb hl w => by
    have e := cut1_eq φ b i (2, x) ls
    change W _ _ _ _ _ _ _ _ _ _ _ _ _ _ _ (F0 _ _ _ (rfv φ b x :: _))
    change (i, rfv φ b x) :: _ = _ at e
    unfold rfv at e ⊢
    split
    · rw [if_pos (by assumption)] at e; exact lv_astore hx hb hd hl hn e w
    · rw [if_neg (by assumption)] at e
      split
      · rw [if_pos (by assumption)] at e; exact lv_astoreN hx hb hd hl hn e w
      · rw [if_neg (by assumption)] at e; exact lv_astore hx hb hd hl hn e w
theorem r_astore_n {n : Fin 4} {i : Nat} {x : Int} {ls' : List (Nat × AV)} (hd : decode M.2.1 pc = .ok (.astore_n n, 1)) (hi : (n : Nat) = i) (hn : i < M.2.2.1) (he : (i, (2, x)) :: cut1 i ls = ls') (k : Fr M d fc fs sc (pc + 1) ls' st K H Q) : Fr M d fc fs sc pc ls ((2, x) :: st) K H Q :=
  Fr.store cut1 (cut1_in i ls) he k fun φ b lsA hx hb hl w => by
    have e := cut1_eq φ b i (2, x) ls
    change W _ _ _ _ _ _ _ _ _ _ _ _ _ _ _ (F0 _ _ _ (rfv φ b x :: _))
    change (i, rfv φ b x) :: _ = _ at e
    unfold rfv at e ⊢
    split
    · rw [if_pos (by assumption)] at e; exact lv_astore_n hx hb hd hi hl hn e w
    · rw [if_neg (by assumption)] at e
      split
      · rw [if_pos (by assumption)] at e; exact lv_astore_nN hx hb hd hi hl hn e w
      · rw [if_neg (by assumption)] at e; exact lv_astore_n hx hb hd hi hl hn e w
theorem r_iinc {i : Nat} {n x : Int} {ls' : List (Nat × AV)} (j : Nat) (hd : decode M.2.1 pc = .ok (.iinc i n, 3)) (hn : i < M.2.2.1) (hm : ls[j]? = some (i, (0, x))) (h : inI (x + n)) (he : (i, (0, x + n)) :: cut1 i ls = ls') (k : Fr M d fc fs sc (pc + 3) ls' st K H Q) : Fr M d fc fs sc pc ls st K H Q := by
  intro p l e R s m args below meth c base b D aC n0 φ0 φ Hp locs cells slots lsA QM hC hR1 hR2 hc1 hc2 hP hS hl hlo hso hn' hag hret
  subst he
  have hk : (ls.map fun q => (q.1, toV φ b q.2))[j]? = some (i, .int (Int32.ofInt x)) := by rw [List.getElem?_map, hm]; rfl
  exact lv_iinc hC.1 hC.2.1 hd hl hk (Int32.ofInt_add x n).symm hn (cut1_eq φ b i (0, x + n) ls) fun lsB hlB => k p l e R s m args below meth c base b D aC n0 φ0 φ Hp locs cells slots lsB QM hC hR1 hR2 hc1 hc2 hP hS hlB (fun q hq => (List.mem_cons.mp hq).elim (fun e => by rw [e]; exact h) (fun h => hlo q (cut1_in i ls q h))) hso hn' hag hret
/-- fewer locals, in any order -/
theorem Fr.fewer {ls' : List (Nat × AV)} (ks : List Nat) (he : ks.filterMap (fun k => ls[k]?) = ls') (k : Fr M d fc fs sc pc ls' st K H Q) : Fr M d fc fs sc pc ls st K H Q := by
  intro p l e R s m args below meth c base b D aC n0 φ0 φ Hp locs cells slots lsA QM hC hR1 hR2 hc1 hc2 hP hS hl hlo hso hn' hag hret
  have hin : ∀ q, q ∈ ls' → q ∈ ls := by
    intro q hq
    rw [← he] at hq
    obtain ⟨i, -, hi⟩ := List.mem_filterMap.mp hq
    exact List.mem_of_getElem? hi
  refine k p l e R s m args below meth c base b D aC n0 φ0 φ Hp locs cells slots lsA QM hC hR1 hR2 hc1 hc2 hP hS ⟨hl.1, hl.2.1, fun q hq => ?_⟩ (fun q hq => hlo q (hin q hq)) hso hn' hag hret
  obtain ⟨q0, h1, h2⟩ := List.mem_map.mp hq
  exact hl.2.2 q (List.mem_map.mpr ⟨q0, hin q0 h1, h2⟩)
/-- what may be taken as known of a frame's numbers -/
theorem Fr.know (k : (∀ q ∈ ls, okV K.length q.2) → Rng K H → Fr M d fc fs sc pc ls st K H Q) : Fr M d fc fs sc pc ls st K H Q := by
  intro p l e R s m args below meth c base b D aC n0 φ0 φ Hp locs cells slots lsA QM hC hR1 hR2 hc1 hc2 hP hS hl hlo hso hn' hag hret
  exact k hlo hP.2.2 p l e R s m args below meth c base b D aC n0 φ0 φ Hp locs cells slots lsA QM hC hR1 hR2 hc1 hc2 hP hS hl hlo hso hn' hag hret
/-- branches -/
theorem Fr.br {c0 : Prop} {tgt pc' : Nat} {st1 : List AV} (ho : (∀ v ∈ st1, okV K.length v) → ∀ v ∈ st, okV K.length v) (kt : c0 → Fr M d fc fs sc tgt ls st K H Q) (kf : ¬ c0 → Fr M d fc fs sc pc' ls st K H Q)
    (hw : ∀ {p : Program} {l : Launch} {e : Env} {R : Room} {s : State} {m : MethodId} {args : Array Value} {below : List Frame} {meth : Method} {c : Code} {Hp : Heap} {locs : List Loc} {cells slots : Nat} {QM : State → Prop} (φ : Nat → Nat) (b : Nat) (lsA : Array Slot), p.tables.exec = Jvm.exec → c.code = M.2.1 → (∀ v ∈ st1, okV K.length v) →
      (c0 → W p l e R s m args below meth c Hp locs cells slots QM (F0 m tgt lsA (st.map (toV φ b)))) → (¬ c0 → W p l e R s m args below meth c Hp locs cells slots QM (F0 m pc' lsA (st.map (toV φ b)))) → W p l e R s m args below meth c Hp locs cells slots QM (F0 m pc lsA (st1.map (toV φ b)))) : Fr M d fc fs sc pc ls st1 K H Q := by
  intro p l e R s m args below meth c base b D aC n0 φ0 φ Hp locs cells slots lsA QM hC hR1 hR2 hc1 hc2 hP hS hl hlo hso hn hag hret
  exact hw φ b lsA hC.1 hC.2.1 hso (fun h => kt h p l e R s m args below meth c base b D aC n0 φ0 φ Hp locs cells slots lsA QM hC hR1 hR2 hc1 hc2 hP hS hl hlo (ho hso) hn hag hret) (fun h => kf h p l e R s m args below meth c base b D aC n0 φ0 φ Hp locs cells slots lsA QM hC hR1 hR2 hc1 hc2 hP hS hl hlo (ho hso) hn hag hret)
theorem r_icmp_eq {x y off : Int} {tgt : Nat} (hd : decode M.2.1 pc = .ok (.if_icmp .eq off, 3)) (ht : (pc : Int) + off = (tgt : Int)) (kt : x = y → Fr M d fc fs sc tgt ls st K H Q) (kf : ¬ x = y → Fr M d fc fs sc (pc + 3) ls st K H Q) : Fr M d fc fs sc pc ls ((0, y) :: (0, x) :: st) K H Q :=
  Fr.br (fun o => (ok_2 o).2.2) kt kf fun φ b lsA hx hb o wt wf => lv_icmp_eq hx hb hd ht (fun h => wt ((i_eq (ok_2 o).2.1 (ok_2 o).1).mp h)) (fun h => wf (fun q => h ((i_eq (ok_2 o).2.1 (ok_2 o).1).mpr q)))
theorem r_icmp_ne {x y off : Int} {tgt : Nat} (hd : decode M.2.1 pc = .ok (.if_icmp .ne off, 3)) (ht : (pc : Int) + off = (tgt : Int)) (kt : ¬ x = y → Fr M d fc fs sc tgt ls st K H Q) (kf : x = y → Fr M d fc fs sc (pc + 3) ls st K H Q) : Fr M d fc fs sc pc ls ((0, y) :: (0, x) :: st) K H Q :=
  Fr.br (c0 := ¬ x = y) (fun o => (ok_2 o).2.2) kt (fun h => kf (Classical.not_not.mp h)) fun φ b lsA hx hb o wt wf => lv_icmp_ne hx hb hd ht (fun h => wt (fun q => h ((i_eq (ok_2 o).2.1 (ok_2 o).1).mpr q))) (fun h => wf (fun q => q ((i_eq (ok_2 o).2.1 (ok_2 o).1).mp h)))
theorem r_icmp_lt {x y off : Int} {tgt : Nat} (hd : decode M.2.1 pc = .ok (.if_icmp .lt off, 3)) (ht : (pc : Int) + off = (tgt : Int)) (kt : x < y → Fr M d fc fs sc tgt ls st K H Q) (kf : ¬ x < y → Fr M d fc fs sc (pc + 3) ls st K H Q) : Fr M d fc fs sc pc ls ((0, y) :: (0, x) :: st) K H Q :=
  Fr.br (fun o => (ok_2 o).2.2) kt kf fun φ b lsA hx hb o wt wf => lv_icmp_lt hx hb hd ht (fun h => wt ((i_lt (ok_2 o).2.1 (ok_2 o).1).mp h)) (fun h => wf (fun q => h ((i_lt (ok_2 o).2.1 (ok_2 o).1).mpr q)))
theorem r_icmp_ge {x y off : Int} {tgt : Nat} (hd : decode M.2.1 pc = .ok (.if_icmp .ge off, 3)) (ht : (pc : Int) + off = (tgt : Int)) (kt : ¬ x < y → Fr M d fc fs sc tgt ls st K H Q) (kf : x < y → Fr M d fc fs sc (pc + 3) ls st K H Q) : Fr M d fc fs sc pc ls ((0, y) :: (0, x) :: st) K H Q :=
  Fr.br (c0 := y ≤ x) (fun o => (ok_2 o).2.2) (fun h => kt (Int.not_lt.mpr h)) (fun h => kf (Int.not_le.mp h)) fun φ b lsA hx hb o wt wf => lv_icmp_ge hx hb hd ht (fun h => wt ((i_le (ok_2 o).1 (ok_2 o).2.1).mp h)) (fun h => wf (fun q => h ((i_le (ok_2 o).1 (ok_2 o).2.1).mpr q)))
theorem r_icmp_gt {x y off : Int} {tgt : Nat} (hd : decode M.2.1 pc = .ok (.if_icmp .gt off, 3)) (ht : (pc : Int) + off = (tgt : Int)) (kt : ¬ x ≤ y → Fr M d fc fs sc tgt ls st K H Q) (kf : x ≤ y → Fr M d fc fs sc (pc + 3) ls st K H Q) : Fr M d fc fs sc pc ls ((0, y) :: (0, x) :: st) K H Q :=
  Fr.br (c0 := y < x) (fun o => (ok_2 o).2.2) (fun h => kt (Int.not_le.mpr h)) (fun h => kf (Int.not_lt.mp h)) fun φ b lsA hx hb o wt wf => lv_icmp_gt hx hb hd ht (fun h => wt ((i_lt (ok_2 o).1 (ok_2 o).2.1).mp h)) (fun h => wf (fun q => h ((i_lt (ok_2 o).1 (ok_2 o).2.1).mpr q)))
theorem r_icmp_le {x y off : Int} {tgt : Nat} (hd : decode M.2.1 pc = .ok (.if_icmp .le off, 3)) (ht : (pc : Int) + off = (tgt : Int)) (kt : x ≤ y → Fr M d fc fs sc tgt ls st K H Q) (kf : ¬ x ≤ y → Fr M d fc fs sc (pc + 3) ls st K H Q) : Fr M d fc fs sc pc ls ((0, y) :: (0, x) :: st) K H Q :=
  Fr.br (fun o => (ok_2 o).2.2) kt kf fun φ b lsA hx hb o wt wf => lv_icmp_le hx hb hd ht (fun h => wt ((i_le (ok_2 o).2.1 (ok_2 o).1).mp h)) (fun h => wf (fun q => h ((i_le (ok_2 o).2.1 (ok_2 o).1).mpr q)))
theorem r_if_eq {x off : Int} {tgt : Nat} (hd : decode M.2.1 pc = .ok (.ifCond .eq off, 3)) (ht : (pc : Int) + off = (tgt : Int)) (kt : x = 0 → Fr M d fc fs sc tgt ls st K H Q) (kf : ¬ x = 0 → Fr M d fc fs sc (pc + 3) ls st K H Q) : Fr M d fc fs sc pc ls ((0, x) :: st) K H Q :=
  Fr.br (fun o => (ok_1 o).2) kt kf fun φ b lsA hx hb o wt wf => lv_if_eq hx hb hd ht (fun h => wt ((i_eq (ok_1 o).1 i_zero).mp h)) (fun h => wf (fun q => h ((i_eq (ok_1 o).1 i_zero).mpr q)))
theorem r_if_ne {x off : Int} {tgt : Nat} (hd : decode M.2.1 pc = .ok (.ifCond .ne off, 3)) (ht : (pc : Int) + off = (tgt : Int)) (kt : ¬ x = 0 → Fr M d fc fs sc tgt ls st K H Q) (kf : x = 0 → Fr M d fc fs sc (pc + 3) ls st K H Q) : Fr M d fc fs sc pc ls ((0, x) :: st) K H Q :=
  Fr.br (c0 := ¬ x = 0) (fun o => (ok_1 o).2) kt (fun h => kf (Classical.not_not.mp h)) fun φ b lsA hx hb o wt wf => lv_if_ne hx hb hd ht (fun h => wt (fun q => h ((i_eq (ok_1 o).1 i_zero).mpr q))) (fun h => wf (fun q => q ((i_eq (ok_1 o).1 i_zero).mp h)))
theorem r_if_lt {x off : Int} {tgt : Nat} (hd : decode M.2.1 pc = .ok (.ifCond .lt off, 3)) (ht : (pc : Int) + off = (tgt : Int)) (kt : x < 0 → Fr M d fc fs sc tgt ls st K H Q) (kf : ¬ x < 0 → Fr M d fc fs sc (pc + 3) ls st K H Q) : Fr M d fc fs sc pc ls ((0, x) :: st) K H Q :=
  Fr.br (fun o => (ok_1 o).2) kt kf fun φ b lsA hx hb o wt wf => lv_if_lt hx hb hd ht (fun h => wt ((i_lt (ok_1 o).1 i_zero).mp h)) (fun h => wf (fun q => h ((i_lt (ok_1 o).1 i_zero).mpr q)))
theorem r_if_ge {x off : Int} {tgt : Nat} (hd : decode M.2.1 pc = .ok (.ifCond .ge off, 3)) (ht : (pc : Int) + off = (tgt : Int)) (kt : ¬ x < 0 → Fr M d fc fs sc tgt ls st K H Q) (kf : x < 0 → Fr M d fc fs sc (pc + 3) ls st K H Q) : Fr M d fc fs sc pc ls ((0, x) :: st) K H Q :=
  Fr.br (c0 := 0 ≤ x) (fun o => (ok_1 o).2) (fun h => kt (Int.not_lt.mpr h)) (fun h => kf (Int.not_le.mp h)) fun φ b lsA hx hb o wt wf => lv_if_ge hx hb hd ht (fun h => wt ((i_le i_zero (ok_1 o).1).mp h)) (fun h => wf (fun q => h ((i_le i_zero (ok_1 o).1).mpr q)))
theorem r_if_gt {x off : Int} {tgt : Nat} (hd : decode M.2.1 pc = .ok (.ifCond .gt off, 3)) (ht : (pc : Int) + off = (tgt : Int)) (kt : ¬ x ≤ 0 → Fr M d fc fs sc tgt ls st K H Q) (kf : x ≤ 0 → Fr M d fc fs sc (pc + 3) ls st K H Q) : Fr M d fc fs sc pc ls ((0, x) :: st) K H Q :=
  Fr.br (c0 := 0 < x) (fun o => (ok_1 o).2) (fun h => kt (Int.not_le.mpr h)) (fun h => kf (Int.not_lt.mp h)) fun φ b lsA hx hb o wt wf => lv_if_gt hx hb hd ht (fun h => wt ((i_lt i_zero (ok_1 o).1).mp h)) (fun h => wf (fun q => h ((i_lt i_zero (ok_1 o).1).mpr q)))
theorem r_if_le {x off : Int} {tgt : Nat} (hd : decode M.2.1 pc = .ok (.ifCond .le off, 3)) (ht : (pc : Int) + off = (tgt : Int)) (kt : x ≤ 0 → Fr M d fc fs sc tgt ls st K H Q) (kf : ¬ x ≤ 0 → Fr M d fc fs sc (pc + 3) ls st K H Q) : Fr M d fc fs sc pc ls ((0, x) :: st) K H Q :=
  Fr.br (fun o => (ok_1 o).2) kt kf fun φ b lsA hx hb o wt wf => lv_if_le hx hb hd ht (fun h => wt ((i_le (ok_1 o).1 i_zero).mp h)) (fun h => wf (fun q => h ((i_le (ok_1 o).1 i_zero).mpr q)))
/-- a compare of longs: -1, 0, 1 -/
def cmpL (x y : Int) : Int := if y < x then 1 else if x = y then 0 else -1
theorem cmpL_in (x y : Int) : inI (cmpL x y) := by unfold cmpL inI; split <;> (try split) <;> omega
theorem cmpL_lt {x y : Int} : cmpL x y < 0 ↔ x < y := by unfold cmpL; split <;> (try split) <;> omega
theorem cmpL_le {x y : Int} : cmpL x y ≤ 0 ↔ x ≤ y := by unfold cmpL; split <;> (try split) <;> omega
theorem cmpL_eq {x y : Int} : cmpL x y = 0 ↔ x = y := by unfold cmpL; split <;> (try split) <;> omega
theorem rb_cmp_eq {x y : Int} (hx : inL x) (hy : inL y) : lg_cmp (Int64.ofInt x) (Int64.ofInt y) = Int32.ofInt (cmpL x y) := by
  unfold lg_cmp cmpL
  by_cases h1 : y < x
  · have := (l_lt hy hx).mpr h1
    simp [h1, this]; try rfl
  · have h1' : ¬ Int64.ofInt y < Int64.ofInt x := fun q => h1 ((l_lt hy hx).mp q)
    by_cases h2 : x = y
    · subst h2
      simp [h1']; try rfl
    · have h2' : ¬ Int64.ofInt x = Int64.ofInt y := fun q => h2 ((l_eq hx hy).mp q)
      simp [h1, h1', h2, h2']; try rfl
theorem r_lcmp {x y : Int} (hd : decode M.2.1 pc = .ok (.lcmp, 1)) (k : Fr M d fc fs sc (pc + 1) ls ((0, cmpL x y) :: st) K H Q) : Fr M d fc fs sc pc ls ((1, y) :: (1, x) :: st) K H Q :=
  Fr.pure k (fun o => ok_push (cmpL_in x y) (ok_2 o).2.2) (fun φ b lsA hx hb _ _ o w => W.lcmp hx hb hd (by
    rw [rb_cmp_eq (ok_2 o).2.1 (ok_2 o).1]; exact w))
end Rules2
end
section
/-! RULES, third part: fields and arrays -/
theorem rfv_ref {φ : Nat → Nat} {b : Nat} {X : Int} (h : 0 ≤ X) : rfv φ b X = .ref (φ X.toNat) := by
  unfold rfv; rw [if_neg (by omega), if_neg (by omega)]
theorem toV_ref {φ : Nat → Nat} {b : Nat} {X : Int} (h : 0 ≤ X) : toV φ b (2, X) = .ref (φ X.toNat) := rfv_ref h
def Cls (ci : Nat) (C : String) (T : u_T) (N : Nat) : Prop := ci < 13 ∧ vwCl[ci]? = some (C, T, N) ∧ (∀ w ∈ u_ws C T N, w ∈ lw_good) ∧ (∀ k, k < N → parseFieldDescriptor (T k).2.2.1 = some (fty ci k)) ∧ ∀ a, a < N → ∀ b, b < N → a ≠ b → (T a).2.1 ≠ (T b).2.1
theorem stOk {φ : Nat → Nat} {b n : Nat} {t : FieldType} {x : Int} (h : tyOk n t x) : narrow t (toV φ b (ftag t, x)) = toV φ b (ftag t, x) ∧ fits t (toV φ b (ftag t, x)) = true := by
  cases t with
  | int => exact ⟨rfl, rfl⟩
  | long => exact ⟨rfl, rfl⟩
  | boolean =>
    rcases h with h | h <;> subst h
    · show narrow .boolean (.int (Int32.ofInt 0)) = .int (Int32.ofInt 0) ∧ fits .boolean (.int (Int32.ofInt 0)) = true
      exact ⟨by decide +kernel, by decide +kernel⟩
    · show narrow .boolean (.int (Int32.ofInt 1)) = .int (Int32.ofInt 1) ∧ fits .boolean (.int (Int32.ofInt 1)) = true
      exact ⟨by decide +kernel, by decide +kernel⟩
  | object C =>
    show narrow (.object C) (rfv φ b x) = rfv φ b x ∧ fits (.object C) (rfv φ b x) = true
    unfold rfv; split <;> (try split) <;> exact ⟨rfl, rfl⟩
  | array C =>
    show narrow (.array C) (rfv φ b x) = rfv φ b x ∧ fits (.array C) (rfv φ b x) = true
    unfold rfv; split <;> (try split) <;> exact ⟨rfl, rfl⟩
  | _ => exact h.elim
theorem tyOk_okV {n : Nat} {t : FieldType} {x : Int} (h : tyOk n t x) : okV n (ftag t, x) := by
  cases t with
  | int => exact h
  | long => exact h
  | boolean => rcases h with h | h <;> subst h <;> exact ⟨by decide, by decide⟩
  | object C => exact h.2
  | array C => exact h.2
  | _ => exact h.elim
theorem rng_up {K : Shp} {H : Mem} {a k : Nat} {q : Nat × Nat} {x : Int} (h : Rng K H) (hk : K[a]? = some q) (hx : tyOk K.length (kty q.1 k) x) : Rng K (upA H a (up1 (H a) k x)) := by
  intro a' q' h' k' hk'
  unfold upA
  by_cases e : a' = a
  · subst e
    rw [hk] at h'
    cases h'
    rw [if_pos rfl]
    unfold up1
    by_cases e2 : k' = k
    · rw [if_pos e2, e2]; exact hx
    · rw [if_neg e2]; exact h a' q hk k' hk'
  · rw [if_neg e]; exact h a' q' h' k' hk'
theorem cell_obj {φ : Nat → Nat} {b : Nat} {aC : Nat → ClassId} {ci N : Nat} {f : Nat → Int} (h : ci < 13) : cellE φ b aC (ci, N) f = .inr (ci, (List.range N).map fun k => toV φ b (ftag (fty ci k), f k)) := by
  simp [cellE, h]
theorem cell_put {φ : Nat → Nat} {b : Nat} {aC : Nat → ClassId} {ci N k : Nat} {f : Nat → Int} {x : Int} (h : ci < 13) : (.inr (ci, ((List.range N).map fun k => toV φ b (ftag (fty ci k), f k)).set k (toV φ b (ftag (fty ci k), x))) : va_E) = cellE φ b aC (ci, N) (up1 f k x) := by
  rw [cell_obj h, range_set]
  congr 2
  apply List.map_congr_left
  intro j _
  by_cases e : j = k
  · subst e; simp [up1]
  · simp [up1, e]
section Rules3
variable {M : MM} {d fc fs : Nat} {sc : Option (Nat × (Nat → Int))} {pc : Nat} {ls : List (Nat × AV)} {st : List AV} {K : Shp} {H : Mem} {Q : Option AV → Shp → Mem → Prop}
variable {ci k N i : Nat} {C : String} {T : u_T} {X : Int}
theorem r_getf (cl : Cls ci C T N) (k : Nat) (hd : decode M.2.1 pc = .ok (.getfield i, 3)) (hk : k < N) (hw : Cond.fieldLink M.1.cls i (T k).1 (T k).2.1 (T k).2.2.1 ∈ lw_good) {tg : Nat} (ht : ftag (fty ci k) = tg) (h0 : 0 ≤ X) (hK : K[X.toNat]? = some (ci, N))
    (kk : Fr M d fc fs sc (pc + 3) ls ((tg, H X.toNat k) :: st) K H Q) : Fr M d fc fs sc pc ls ((2, X) :: st) K H Q := by
  subst ht
  intro p l e R s m args below meth c base b D aC n0 φ0 φ Hp locs cells slots lsA QM hC hR1 hR2 hc1 hc2 hP hS hl hlo hso hn hag hret
  obtain ⟨hx, hb, hr, hml, hown, hts, hnw, hKK, hlk, hnm, hbs, hsc⟩ := id hC
  have hat := ws_at (φ := φ) (b := b) (aC := aC) (H := H) hK
  rw [cell_obj cl.1] at hat
  have hok : tyOk K.length (fty ci k) (H X.toNat k) := by
    have := hP.2.2 X.toNat _ hK k hk
    rw [kty, if_pos cl.1] at this
    exact this
  have hw2 := kk p l e R s m args below meth c base b D aC n0 φ0 φ Hp locs cells slots lsA QM hC hR1 hR2 hc1 hc2 hP hS hl hlo (ok_push (tyOk_okV hok) (ok_1 hso).2) hn hag hret
  rw [List.map_cons, toV_ref h0]
  exact va_get hx hb hts cl.2.2.1 hown hKK hP.1 X.toNat hat cl.2.1 k hk (hts _ hw) (fun _ h => h) (v := toV φ b (ftag (fty ci k), H X.toNat k)) (by simp [hk]) hd hw2
theorem r_putf (cl : Cls ci C T N) (k : Nat) {x : Int} {tg : Nat} (hd : decode M.2.1 pc = .ok (.putfield i, 3)) (hk : k < N) (hf : (T k).2.2.2 = false) (hw : Cond.fieldLink M.1.cls i (T k).1 (T k).2.1 (T k).2.2.1 ∈ lw_good) (ht : ftag (fty ci k) = tg) (h0 : 0 ≤ X) (hK : K[X.toNat]? = some (ci, N)) (hx : okV K.length (tg, x) → tyOk K.length (fty ci k) x)
    (kk : Fr M d fc fs sc (pc + 3) ls st K (upA H X.toNat (up1 (H X.toNat) k x)) Q) : Fr M d fc fs sc pc ls ((tg, x) :: (2, X) :: st) K H Q := by
  subst ht
  intro p l e R s m args below meth c base b D aC n0 φ0 φ Hp locs cells slots lsA QM hC hR1 hR2 hc1 hc2 hP hS hl hlo hso hn hag hret
  obtain ⟨hxx, hb, hr, hml, hown, hts, hnw, hKK, hlk, hnm, hbs, hsc⟩ := id hC
  have hx := hx (ok_1 hso).1
  have hat := ws_at (φ := φ) (b := b) (aC := aC) (H := H) hK
  rw [cell_obj cl.1] at hat
  rw [List.map_cons, List.map_cons, toV_ref h0]
  refine va_put hxx hb hts cl.2.2.1 (fty ci) cl.2.2.2.1 cl.2.2.2.2 hown hKK hP.1 hP.2.1 hS X.toNat hat cl.2.1 k hk (hts _ hw) (fun _ h => h) hf (cl.2.2.2.1 k hk) (stOk hx).1 (stOk hx).2 (by simp [hk]) hd fun H1 locs1 hP1 hD1 hS1 => ?_
  rw [cell_put (aC := aC) cl.1, ws_set hK] at hP1 hD1
  exact kk p l e R s m args below meth c base b D aC n0 φ0 φ H1 locs1 cells slots lsA QM hC hR1 hR2 hc1 hc2 ⟨hP1, hD1, rng_up hP.2.2 hK (by rw [kty, if_pos cl.1]; exact hx)⟩ hS1 hl hlo (ok_2 hso).2.2 hn hag hret
/-- a final field, in a constructor -/
theorem r_putfF (cl : Cls ci C T N) (k : Nat) {x : Int} {tg : Nat} (hd : decode M.2.1 pc = .ok (.putfield i, 3)) (hk : k < N) (hf : (T k).2.2.2 = true) (hi : M.1.name = "<init>") (ho : (T k).1 = M.1.cls) (hw : Cond.fieldLink M.1.cls i (T k).1 (T k).2.1 (T k).2.2.1 ∈ lw_good) (ht : ftag (fty ci k) = tg) (h0 : 0 ≤ X) (hK : K[X.toNat]? = some (ci, N)) (hx : okV K.length (tg, x) → tyOk K.length (fty ci k) x)
    (kk : Fr M d fc fs sc (pc + 3) ls st K (upA H X.toNat (up1 (H X.toNat) k x)) Q) : Fr M d fc fs sc pc ls ((tg, x) :: (2, X) :: st) K H Q := by
  subst ht
  intro p l e R s m args below meth c base b D aC n0 φ0 φ Hp locs cells slots lsA QM hC hR1 hR2 hc1 hc2 hP hS hl hlo hso hn hag hret
  obtain ⟨hxx, hb, hr, hml, hown, hts, hnw, hKK, hlk, hnm, hbs, hsc⟩ := id hC
  have hx := hx (ok_1 hso).1
  have hat := ws_at (φ := φ) (b := b) (aC := aC) (H := H) hK
  rw [cell_obj cl.1] at hat
  rw [List.map_cons, List.map_cons, toV_ref h0]
  refine va_putF hxx hb hts cl.2.2.1 (fty ci) cl.2.2.2.1 cl.2.2.2.2 hown hKK hP.1 hP.2.1 hS X.toNat hat cl.2.1 k hk (hts _ hw) (fun _ h => h) hf (hnm.trans hi) ho (cl.2.2.2.1 k hk) (stOk hx).1 (stOk hx).2 (by simp [hk]) hd fun H1 locs1 hP1 hD1 hS1 => ?_
  rw [cell_put (aC := aC) cl.1, ws_set hK] at hP1 hD1
  exact kk p l e R s m args below meth c base b D aC n0 φ0 φ H1 locs1 cells slots lsA QM hC hR1 hR2 hc1 hc2 ⟨hP1, hD1, rng_up hP.2.2 hK (by rw [kty, if_pos cl.1]; exact hx)⟩ hS1 hl hlo (ok_2 hso).2.2 hn hag hret
/-- arrays -/
theorem cell_i {φ : Nat → Nat} {b : Nat} {aC : Nat → ClassId} {n : Nat} {f : Nat → Int} : cellE φ b aC (20, n) f = .inl (aC 20, n, .inl fun j => Int32.ofInt (f j)) := by simp [cellE]
theorem cell_z {φ : Nat → Nat} {b : Nat} {aC : Nat → ClassId} {n : Nat} {f : Nat → Int} : cellE φ b aC (22, n) f = .inl (aC 22, n, .inl fun j => Int32.ofInt (f j)) := by simp [cellE]
theorem cell_l {φ : Nat → Nat} {b : Nat} {aC : Nat → ClassId} {n : Nat} {f : Nat → Int} : cellE φ b aC (21, n) f = .inl (aC 21, n, .inr (.inl fun j => Int64.ofInt (f j))) := by simp [cellE]
theorem cell_23 {φ : Nat → Nat} {b : Nat} {aC : Nat → ClassId} {n : Nat} {f : Nat → Int} : cellE φ b aC (23, n) f = .inl (aC 23, n, .inr (.inr (.inr (.inr fun j => refE φ (f j))))) := by simp [cellE]
theorem cell_24 {φ : Nat → Nat} {b : Nat} {aC : Nat → ClassId} {n : Nat} {f : Nat → Int} : cellE φ b aC (24, n) f = .inl (aC 24, n, .inr (.inr (.inr (.inr fun j => refE φ (f j))))) := by simp [cellE]
theorem up32 {f : Nat → Int} {k : Nat} {x : Int} : upd (fun j => Int32.ofInt (f j)) k (Int32.ofInt x) = fun j => Int32.ofInt (up1 f k x j) := by
  funext j; unfold upd up1; split <;> rfl
theorem up64 {f : Nat → Int} {k : Nat} {x : Int} : vp_updL (fun j => Int64.ofInt (f j)) k (Int64.ofInt x) = fun j => Int64.ofInt (up1 f k x j) := by
  funext j; unfold vp_updL up1; split <;> rfl
variable {n : Nat} {j x : Int}
theorem r_iald (n : Nat) (hd : decode M.2.1 pc = .ok (.iaload, 1)) (h0 : 0 ≤ X) (hK : K[X.toNat]? = some (20, n)) (hj : 0 ≤ j) (hj2 : j < n)
    (kk : Fr M d fc fs sc (pc + 1) ls ((0, H X.toNat j.toNat) :: st) K H Q) : Fr M d fc fs sc pc ls ((0, j) :: (2, X) :: st) K H Q := by
  intro p l e R s m args below meth c base b D aC n0 φ0 φ Hp locs cells slots lsA QM hC hR1 hR2 hc1 hc2 hP hS hl hlo hso hn hag hret
  have hji : inI j := (ok_1 hso).1
  have hat := ws_at (φ := φ) (b := b) (aC := aC) (H := H) hK
  rw [cell_i] at hat
  have hok := hP.2.2 X.toNat _ hK j.toNat (by show j.toNat < n; omega)
  have hw2 := kk p l e R s m args below meth c base b D aC n0 φ0 φ Hp locs cells slots lsA QM hC hR1 hR2 hc1 hc2 hP hS hl hlo (ok_push hok (ok_2 hso).2.2) hn hag hret
  rw [List.map_cons, List.map_cons, toV_ref h0]
  refine va_iald hC.1 hC.2.1 hC.2.2.2.2.2.2.2.1 hP.1 X.toNat 0 hat rfl (i_in hji hj hj2) hd ?_
  rw [i_clamp hji]
  exact hw2
theorem r_zald (n : Nat) (hd : decode M.2.1 pc = .ok (.baload, 1)) (h0 : 0 ≤ X) (hK : K[X.toNat]? = some (22, n)) (hj : 0 ≤ j) (hj2 : j < n)
    (kk : Fr M d fc fs sc (pc + 1) ls ((0, H X.toNat j.toNat) :: st) K H Q) : Fr M d fc fs sc pc ls ((0, j) :: (2, X) :: st) K H Q := by
  intro p l e R s m args below meth c base b D aC n0 φ0 φ Hp locs cells slots lsA QM hC hR1 hR2 hc1 hc2 hP hS hl hlo hso hn hag hret
  have hji : inI j := (ok_1 hso).1
  have hat := ws_at (φ := φ) (b := b) (aC := aC) (H := H) hK
  rw [cell_z] at hat
  have hok : tyOk K.length .boolean _ := hP.2.2 X.toNat _ hK j.toNat (by show j.toNat < n; omega)
  have hw2 := kk p l e R s m args below meth c base b D aC n0 φ0 φ Hp locs cells slots lsA QM hC hR1 hR2 hc1 hc2 hP hS hl hlo (ok_push (tyOk_okV hok) (ok_2 hso).2.2) hn hag hret
  rw [List.map_cons, List.map_cons, toV_ref h0]
  refine va_zald hC.1 hC.2.1 hC.2.2.2.2.2.2.2.1 hP.1 X.toNat 2 hat rfl (i_in hji hj hj2) hd ?_
  rw [i_clamp hji]
  exact hw2
theorem r_lald (n : Nat) (hd : decode M.2.1 pc = .ok (.laload, 1)) (h0 : 0 ≤ X) (hK : K[X.toNat]? = some (21, n)) (hj : 0 ≤ j) (hj2 : j < n)
    (kk : Fr M d fc fs sc (pc + 1) ls ((1, H X.toNat j.toNat) :: st) K H Q) : Fr M d fc fs sc pc ls ((0, j) :: (2, X) :: st) K H Q := by
  intro p l e R s m args below meth c base b D aC n0 φ0 φ Hp locs cells slots lsA QM hC hR1 hR2 hc1 hc2 hP hS hl hlo hso hn hag hret
  have hji : inI j := (ok_1 hso).1
  have hat := ws_at (φ := φ) (b := b) (aC := aC) (H := H) hK
  rw [cell_l] at hat
  have hok : tyOk K.length .long _ := hP.2.2 X.toNat _ hK j.toNat (by show j.toNat < n; omega)
  have hw2 := kk p l e R s m args below meth c base b D aC n0 φ0 φ Hp locs cells slots lsA QM hC hR1 hR2 hc1 hc2 hP hS hl hlo (ok_push (tyOk_okV hok) (ok_2 hso).2.2) hn hag hret
  rw [List.map_cons, List.map_cons, toV_ref h0]
  refine va_lald hC.1 hC.2.1 hC.2.2.2.2.2.2.2.1 hP.1 X.toNat 1 hat rfl (i_in hji hj hj2) hd ?_
  rw [i_clamp hji]
  exact hw2
theorem rf_eq {φ : Nat → Nat} {b : Nat} {x : Int} (h : -1 ≤ x) : va_rf (refE φ x) = toV φ b (2, x) := by
  show _ = rfv φ b x
  unfold refE rfv
  by_cases h0 : x < 0
  · rw [if_pos h0, if_neg (by omega), if_pos h0]; rfl
  · rw [if_neg h0, if_neg (by omega), if_neg h0]; rfl
theorem r_aald (kd n : Nat) (hkd : kd = 23 ∨ kd = 24) (hd : decode M.2.1 pc = .ok (.aaload, 1)) (h0 : 0 ≤ X) (hK : K[X.toNat]? = some (kd, n)) (hj : 0 ≤ j) (hj2 : j < n)
    (kk : Fr M d fc fs sc (pc + 1) ls ((2, H X.toNat j.toNat) :: st) K H Q) : Fr M d fc fs sc pc ls ((0, j) :: (2, X) :: st) K H Q := by
  intro p l e R s m args below meth c base b D aC n0 φ0 φ Hp locs cells slots lsA QM hC hR1 hR2 hc1 hc2 hP hS hl hlo hso hn hag hret
  have hji : inI j := (ok_1 hso).1
  have hat := ws_at (φ := φ) (b := b) (aC := aC) (H := H) hK
  rcases hkd with rfl | rfl
  · rw [cell_23] at hat
    have hok : tyOk K.length (.object "") _ := hP.2.2 X.toNat _ hK j.toNat (by show j.toNat < n; omega)
    have hw2 := kk p l e R s m args below meth c base b D aC n0 φ0 φ Hp locs cells slots lsA QM hC hR1 hR2 hc1 hc2 hP hS hl hlo (ok_push (tyOk_okV hok) (ok_2 hso).2.2) hn hag hret
    rw [List.map_cons, List.map_cons, toV_ref h0]
    refine va_aldq hC.1 hC.2.1 hC.2.2.2.2.2.2.2.1 hP.1 X.toNat 3 hat rfl (i_in hji hj hj2) hd ?_
    rw [i_clamp hji, rf_eq (b := b) hok.1]
    exact hw2
  · rw [cell_24] at hat
    have hok : tyOk K.length (.object "") _ := hP.2.2 X.toNat _ hK j.toNat (by show j.toNat < n; omega)
    have hw2 := kk p l e R s m args below meth c base b D aC n0 φ0 φ Hp locs cells slots lsA QM hC hR1 hR2 hc1 hc2 hP hS hl hlo (ok_push (tyOk_okV hok) (ok_2 hso).2.2) hn hag hret
    rw [List.map_cons, List.map_cons, toV_ref h0]
    refine va_aldq hC.1 hC.2.1 hC.2.2.2.2.2.2.2.1 hP.1 X.toNat 4 hat rfl (i_in hji hj hj2) hd ?_
    rw [i_clamp hji, rf_eq (b := b) hok.1]
    exact hw2
theorem r_iast (n : Nat) (hd : decode M.2.1 pc = .ok (.iastore, 1)) (h0 : 0 ≤ X) (hK : K[X.toNat]? = some (20, n)) (hj : 0 ≤ j) (hj2 : j < n)
    (kk : Fr M d fc fs sc (pc + 1) ls st K (upA H X.toNat (up1 (H X.toNat) j.toNat x)) Q) : Fr M d fc fs sc pc ls ((0, x) :: (0, j) :: (2, X) :: st) K H Q := by
  intro p l e R s m args below meth c base b D aC n0 φ0 φ Hp locs cells slots lsA QM hC hR1 hR2 hc1 hc2 hP hS hl hlo hso hn hag hret
  have hji : inI j := (ok_2 hso).2.1
  have hat := ws_at (φ := φ) (b := b) (aC := aC) (H := H) hK
  rw [cell_i] at hat
  rw [List.map_cons, List.map_cons, List.map_cons, toV_ref h0]
  refine va_iast hC.1 hC.2.1 hC.2.2.2.2.2.2.2.1 hP.1 hP.2.1 hS X.toNat 0 hat rfl (i_in hji hj hj2) hd fun H1 locs1 hP1 hD1 hS1 => ?_
  rw [i_clamp hji, up32, ← cell_i (φ := φ) (b := b), ws_set hK] at hP1 hD1
  exact kk p l e R s m args below meth c base b D aC n0 φ0 φ H1 locs1 cells slots lsA QM hC hR1 hR2 hc1 hc2 ⟨hP1, hD1, rng_up hP.2.2 hK (ok_2 hso).1⟩ hS1 hl hlo (ok_1 (ok_2 hso).2.2).2 hn hag hret
theorem r_last (n : Nat) (hd : decode M.2.1 pc = .ok (.lastore, 1)) (h0 : 0 ≤ X) (hK : K[X.toNat]? = some (21, n)) (hj : 0 ≤ j) (hj2 : j < n)
    (kk : Fr M d fc fs sc (pc + 1) ls st K (upA H X.toNat (up1 (H X.toNat) j.toNat x)) Q) : Fr M d fc fs sc pc ls ((1, x) :: (0, j) :: (2, X) :: st) K H Q := by
  intro p l e R s m args below meth c base b D aC n0 φ0 φ Hp locs cells slots lsA QM hC hR1 hR2 hc1 hc2 hP hS hl hlo hso hn hag hret
  have hji : inI j := (ok_2 hso).2.1
  have hat := ws_at (φ := φ) (b := b) (aC := aC) (H := H) hK
  rw [cell_l] at hat
  rw [List.map_cons, List.map_cons, List.map_cons, toV_ref h0]
  refine va_last hC.1 hC.2.1 hC.2.2.2.2.2.2.2.1 hP.1 hP.2.1 hS X.toNat 1 hat rfl (i_in hji hj hj2) hd fun H1 locs1 hP1 hD1 hS1 => ?_
  rw [i_clamp hji, up64, ← cell_l (φ := φ) (b := b), ws_set hK] at hP1 hD1
  exact kk p l e R s m args below meth c base b D aC n0 φ0 φ H1 locs1 cells slots lsA QM hC hR1 hR2 hc1 hc2 ⟨hP1, hD1, rng_up hP.2.2 hK (ok_2 hso).1⟩ hS1 hl hlo (ok_1 (ok_2 hso).2.2).2 hn hag hret
theorem nar01 {x : Int} (h : x = 0 ∨ x = 1) : vp_nar .boolean (Int32.ofInt x) = Int32.ofInt x := by
  rcases h with h | h <;> subst h <;> decide +kernel
theorem r_zast (n : Nat) (hd : decode M.2.1 pc = .ok (.bastore, 1)) (h0 : 0 ≤ X) (hK : K[X.toNat]? = some (22, n)) (hj : 0 ≤ j) (hj2 : j < n) (hx : x = 0 ∨ x = 1)
    (kk : Fr M d fc fs sc (pc + 1) ls st K (upA H X.toNat (up1 (H X.toNat) j.toNat x)) Q) : Fr M d fc fs sc pc ls ((0, x) :: (0, j) :: (2, X) :: st) K H Q := by
  intro p l e R s m args below meth c base b D aC n0 φ0 φ Hp locs cells slots lsA QM hC hR1 hR2 hc1 hc2 hP hS hl hlo hso hn hag hret
  have hji : inI j := (ok_2 hso).2.1
  have hat := ws_at (φ := φ) (b := b) (aC := aC) (H := H) hK
  rw [cell_z] at hat
  rw [List.map_cons, List.map_cons, List.map_cons, toV_ref h0]
  refine va_zast hC.1 hC.2.1 hC.2.2.2.2.2.2.2.1 hP.1 hP.2.1 hS X.toNat 2 hat rfl (i_in hji hj hj2) hd fun H1 locs1 hP1 hD1 hS1 => ?_
  rw [i_clamp hji, nar01 hx, up32, ← cell_z (φ := φ) (b := b), ws_set hK] at hP1 hD1
  exact kk p l e R s m args below meth c base b D aC n0 φ0 φ H1 locs1 cells slots lsA QM hC hR1 hR2 hc1 hc2 ⟨hP1, hD1, rng_up hP.2.2 hK hx⟩ hS1 hl hlo (ok_1 (ok_2 hso).2.2).2 hn hag hret
theorem upRef {φ : Nat → Nat} {f : Nat → Int} {k : Nat} {x : Int} (h : 0 ≤ x) : va_up (fun j => refE φ (f j)) k (some (φ x.toNat)) = fun j => refE φ (up1 f k x j) := by
  funext j; unfold va_up up1
  split
  · unfold refE; rw [if_neg (by omega)]
  · rfl
/-- an object of class ci into an array of such -/
theorem r_aast (kd n : Nat) (hkd : kd = 23 ∧ ci = 4 ∨ kd = 24 ∧ ci = 7) (hd : decode M.2.1 pc = .ok (.aastore, 1)) (h0 : 0 ≤ X) (hK : K[X.toNat]? = some (kd, n)) (hj : 0 ≤ j) (hj2 : j < n) (hx0 : 0 ≤ x) (hxK : K[x.toNat]? = some (ci, N))
    (kk : Fr M d fc fs sc (pc + 1) ls st K (upA H X.toNat (up1 (H X.toNat) j.toNat x)) Q) : Fr M d fc fs sc pc ls ((2, x) :: (0, j) :: (2, X) :: st) K H Q := by
  intro p l e R s m args below meth c base b D aC n0 φ0 φ Hp locs cells slots lsA QM hC hR1 hR2 hc1 hc2 hP hS hl hlo hso hn hag hret
  have hji : inI j := (ok_2 hso).2.1
  have hat := ws_at (φ := φ) (b := b) (aC := aC) (H := H) hK
  have hax := ws_at (φ := φ) (b := b) (aC := aC) (H := H) hxK
  have hxl : x < K.length := (ok_2 hso).1
  rw [List.map_cons, List.map_cons, List.map_cons, toV_ref h0, toV_ref hx0]
  rcases hkd with ⟨rfl, rfl⟩ | ⟨rfl, rfl⟩
  · rw [cell_23] at hat
    rw [cell_obj (by decide)] at hax
    refine va_astq hC.1 hC.2.1 hC.2.2.2.2.2.2.2.1 hP.1 hP.2.1 hS X.toNat 3 x.toNat 4 (r := (RX4, TX4, 18)) hat rfl hax rfl (i_in hji hj hj2) hd fun H1 locs1 hP1 hD1 hS1 => ?_
    rw [i_clamp hji, upRef hx0, ← cell_23 (φ := φ) (b := b), ws_set hK] at hP1 hD1
    exact kk p l e R s m args below meth c base b D aC n0 φ0 φ H1 locs1 cells slots lsA QM hC hR1 hR2 hc1 hc2 ⟨hP1, hD1, rng_up hP.2.2 hK ⟨by omega, hxl⟩⟩ hS1 hl hlo (ok_1 (ok_2 hso).2.2).2 hn hag hret
  · rw [cell_24] at hat
    rw [cell_obj (by decide)] at hax
    refine va_astq hC.1 hC.2.1 hC.2.2.2.2.2.2.2.1 hP.1 hP.2.1 hS X.toNat 4 x.toNat 7 (r := (RX7, TX7, 5)) hat rfl hax rfl (i_in hji hj hj2) hd fun H1 locs1 hP1 hD1 hS1 => ?_
    rw [i_clamp hji, upRef hx0, ← cell_24 (φ := φ) (b := b), ws_set hK] at hP1 hD1
    exact kk p l e R s m args below meth c base b D aC n0 φ0 φ H1 locs1 cells slots lsA QM hC hR1 hR2 hc1 hc2 ⟨hP1, hD1, rng_up hP.2.2 hK ⟨by omega, hxl⟩⟩ hS1 hl hlo (ok_1 (ok_2 hso).2.2).2 hn hag hret
theorem r_alen (kd n t0 : Nat) {ty : FieldType} (hd : decode M.2.1 pc = .ok (.arraylength, 1)) (h0 : 0 ≤ X) (hK : K[X.toNat]? = some (kd, n)) (hkd : kd = 20 ∨ kd = 21) (hn2 : n < 2147483648)
    (kk : Fr M d fc fs sc (pc + 1) ls ((0, (n : Int)) :: st) K H Q) : Fr M d fc fs sc pc ls ((2, X) :: st) K H Q := by
  intro p l e R s m args below meth c base b D aC n0 φ0 φ Hp locs cells slots lsA QM hC hR1 hR2 hc1 hc2 hP hS hl hlo hso hn hag hret
  have hat := ws_at (φ := φ) (b := b) (aC := aC) (H := H) hK
  have hw2 := kk p l e R s m args below meth c base b D aC n0 φ0 φ Hp locs cells slots lsA QM hC hR1 hR2 hc1 hc2 hP hS hl hlo (ok_push (⟨by omega, by omega⟩ : inI (n : Int)) (ok_1 hso).2) hn hag hret
  rw [List.map_cons, toV_ref h0]
  rcases hkd with rfl | rfl
  · rw [cell_i] at hat
    exact va_alen hC.1 hC.2.1 hC.2.2.2.2.2.2.2.1 hP.1 X.toNat 0 hat (ty := .int) rfl (Int32.ofInt_eq_ofNat).symm hd hw2
  · rw [cell_l] at hat
    exact va_alen hC.1 hC.2.1 hC.2.2.2.2.2.2.2.1 hP.1 X.toNat 1 hat (ty := .long) rfl (Int32.ofInt_eq_ofNat).symm hd hw2
/-- the law's script -/
theorem r_sald {L : Nat} {xs : Nat → Int} (hsc : sc = some (L, xs)) (hd : decode M.2.1 pc = .ok (.iaload, 1)) (hj : 0 ≤ j) (hj2 : j < L)
    (kk : Fr M d fc fs sc (pc + 1) ls ((0, xs j.toNat) :: st) K H Q) : Fr M d fc fs sc pc ls ((0, j) :: (2, -2) :: st) K H Q := by
  intro p l e R s m args below meth c base b D aC n0 φ0 φ Hp locs cells slots lsA QM hC hR1 hR2 hc1 hc2 hP hS hl hlo hso hn hag hret
  have hji : inI j := (ok_1 hso).1
  obtain ⟨hX, hb1, hb2, hL, hxs⟩ := hC.2.2.2.2.2.2.2.2.2.2.2 L xs hsc
  have hw2 := kk p l e R s m args below meth c base b D aC n0 φ0 φ Hp locs cells slots lsA QM hC hR1 hR2 hc1 hc2 hP hS hl hlo (ok_push (hxs j.toNat (by omega)) (ok_2 hso).2.2) hn hag hret
  refine va_sld hC.1 hC.2.1 hX hb1 (A := fun q => base ≤ q) (Nat.not_le.mpr hb2) hS (i_in hji hj hj2) hd ?_
  rw [i_clamp hji]
  exact hw2
theorem r_slen {L : Nat} {xs : Nat → Int} (hsc : sc = some (L, xs)) (hd : decode M.2.1 pc = .ok (.arraylength, 1))
    (kk : Fr M d fc fs sc (pc + 1) ls ((0, (L : Int)) :: st) K H Q) : Fr M d fc fs sc pc ls ((2, -2) :: st) K H Q := by
  intro p l e R s m args below meth c base b D aC n0 φ0 φ Hp locs cells slots lsA QM hC hR1 hR2 hc1 hc2 hP hS hl hlo hso hn hag hret
  obtain ⟨hX, hb1, hb2, hL, hxs⟩ := hC.2.2.2.2.2.2.2.2.2.2.2 L xs hsc
  have hw2 := kk p l e R s m args below meth c base b D aC n0 φ0 φ Hp locs cells slots lsA QM hC hR1 hR2 hc1 hc2 hP hS hl hlo (ok_push (⟨by omega, by omega⟩ : inI (L : Int)) (ok_1 hso).2) hn hag hret
  refine va_slen hC.1 hC.2.1 hX hb1 (A := fun q => base ≤ q) (Nat.not_le.mpr hb2) hS hd ?_
  have e : Int32.ofNat L = Int32.ofInt (L : Int) := (Int32.ofInt_eq_ofNat).symm
  rw [e]
  exact hw2
end Rules3
end
section
/-! RULES, fourth part: returns, the entry, calls, new cells -/
section Ends
variable {M : MM} {d fc fs : Nat} {sc : Option (Nat × (Nat → Int))} {pc : Nat} {ls : List (Nat × AV)} {st : List AV} {K : Shp} {H : Mem} {Q : Option AV → Shp → Mem → Prop}
theorem r_iret {x : Int} (hd : decode M.2.1 pc = .ok (.ireturn, 1)) (hr : M.2.2.2 = some .int) (h : Q (some (0, x)) K H) : Fr M d fc fs sc pc ls [(0, x)] K H Q := by
  intro p l e R s m args below meth c base b D aC n0 φ0 φ Hp locs cells slots lsA QM hC hR1 hR2 hc1 hc2 hP hS hl hlo hso hn hag hret
  exact hret (some (0, x)) K H φ Hp locs cells slots pc lsA h hP hS (by omega) (by omega) hn hag (Or.inl ⟨x, rfl, (ok_1 hso).1, hd, Or.inl hr⟩)
theorem r_zret {x : Int} (hd : decode M.2.1 pc = .ok (.ireturn, 1)) (hr : M.2.2.2 = some .boolean) (hx : x = 0 ∨ x = 1) (h : Q (some (0, x)) K H) : Fr M d fc fs sc pc ls [(0, x)] K H Q := by
  intro p l e R s m args below meth c base b D aC n0 φ0 φ Hp locs cells slots lsA QM hC hR1 hR2 hc1 hc2 hP hS hl hlo hso hn hag hret
  exact hret (some (0, x)) K H φ Hp locs cells slots pc lsA h hP hS (by omega) (by omega) hn hag (Or.inl ⟨x, rfl, (ok_1 hso).1, hd, Or.inr ⟨hr, hx⟩⟩)
theorem r_lret {x : Int} (hd : decode M.2.1 pc = .ok (.lreturn, 1)) (hr : M.2.2.2 = some .long) (h : Q (some (1, x)) K H) : Fr M d fc fs sc pc ls [(1, x)] K H Q := by
  intro p l e R s m args below meth c base b D aC n0 φ0 φ Hp locs cells slots lsA QM hC hR1 hR2 hc1 hc2 hP hS hl hlo hso hn hag hret
  exact hret (some (1, x)) K H φ Hp locs cells slots pc lsA h hP hS (by omega) (by omega) hn hag (Or.inr (Or.inl ⟨x, rfl, (ok_1 hso).1, hd, hr⟩))
theorem r_vret (hd : decode M.2.1 pc = .ok (.return_, 1)) (hr : M.2.2.2 = none) (h : Q none K H) : Fr M d fc fs sc pc ls [] K H Q := by
  intro p l e R s m args below meth c base b D aC n0 φ0 φ Hp locs cells slots lsA QM hC hR1 hR2 hc1 hc2 hP hS hl hlo hso hn hag hret
  exact hret none K H φ Hp locs cells slots pc lsA h hP hS (by omega) (by omega) hn hag (Or.inr (Or.inr ⟨rfl, hd, hr⟩))
theorem good_in {w : Cond} (h : w ∈ lw_good) : (w.onTables && w.keeps) = true ∨ ∃ ty, w = .arrayClass ty := good_of_word (List.mem_filter.mp h).2
/-- THE ENTRY: a contract is the walk of its body -/
theorem Call.of {mc ms : Nat} {args : List AV} (hpl : plainName M.1.cls = true) (hw : wid args ≤ M.2.2.1) (h : (∀ v ∈ args, okV K.length v) → Rng K H → Fr M d mc ms none 0 (argL 0 args) [] K H Q) : Call M d mc ms args K H Q := by
  intro l base b D aC φ
  refine Met.ofW (cc := M.2.1) (maxL := M.2.2.1) (ret := M.2.2.2) (ws' := lw_good) hpl rfl ?_
  intro p e s m args' below meth c s₁ B hml hv
  obtain ⟨rfl, hnw, hK, hbs, hRp, hok⟩ := hv
  have hts := atoms_spec (ws := wsM M) B.pre
  have hown : s.vm.findClass M.1.cls = some m.cls := findClass_of_methodNamed B.named
  have hl := lv_entry (args.map (toV φ b)) (n := M.2.2.1) (by rw [wid_eq]; exact hw)
  rw [argL_eq] at hl
  rw [lg_entry_eq]
  refine h hok hRp.2.2 p l e _ s m _ below meth c base b D aC K.length φ φ s.heap [] 0 0 _ _ ⟨B.exec, B.bytes, B.returns, hml, hown, fun w hw => hts w (List.mem_cons_of_mem _ hw), hnw, hK, B.notSynchronized, (name_of_methodNamed B.named B.method).1, hbs, fun _ _ h => by cases h⟩ (Nat.le_refl _) (Nat.le_refl _) (Nat.le_of_eq (Nat.zero_add _)) (Nat.le_of_eq (Nat.zero_add _)) hRp va_S.rf hl (fun q hq => hok _ (argL_mem _ _ _ hq)) (fun _ h => by cases h) (Nat.le_refl _) (fun _ _ => rfl) ?_
  intro r K' H' φ' Hp locs cells slots pc' ls' hQ hR hS hc1 hc2 hn hag hret
  have hlk := B.notSynchronized
  refine W.widen (k := mc) (n := ms) hc1 hc2 ?_
  rcases hret with ⟨x, rfl, hx, hd, hr⟩ | ⟨x, rfl, hx, hd, hr⟩ | ⟨rfl, hd, hr⟩
  · have hq : ∀ t : State, t.heap = Hp → s.WarmedH t.vm → QcM base b D aC φ K Q (args.map (toV φ b)).toArray s (.returned (some (.int (Int32.ofInt x)))) t := fun t ht _ =>
      ⟨⟨some (0, x), K', H', φ', rfl, fun v e => by cases e; exact ⟨(by show 0 < 2; decide), hx⟩, hQ, by rw [ht]; exact hR, hn, hag⟩, hS.F ht⟩
    rcases hr with hr | ⟨hr, h01⟩
    · exact W.iret B.exec B.bytes (B.returns.trans hr) hq hS.2.2 hd hlk
    · refine W.zret B.exec B.bytes (B.returns.trans hr) ?_ hq hS.2.2 hd hlk
      rcases h01 with h | h <;> subst h <;> decide +kernel
  · exact W.lret B.exec B.bytes (B.returns.trans hr) (fun t ht _ => ⟨⟨some (1, x), K', H', φ', rfl, fun v e => by cases e; exact ⟨(by show 1 < 2; decide), hx⟩, hQ, by rw [ht]; exact hR, hn, hag⟩, hS.F ht⟩) hS.2.2 hd hlk
  · exact W.vret B.exec B.bytes (B.returns.trans hr) (fun t ht _ => ⟨⟨none, K', H', φ', rfl, fun v e => (by cases e), hQ, by rw [ht]; exact hR, hn, hag⟩, hS.F ht⟩) hS.2.2 hd hlk
end Ends
/-- what is said of a method that is called -/
def MOK (M : MM) (n : Nat) : Prop := Cond.code M.1 M.2.1 M.2.2.1 M.2.2.2 ∈ lw_good ∧ Cond.initialized M.1.cls ∈ lw_good ∧ (M.1.cls ≠ "java/lang/invoke/MethodHandle" ∧ M.1.cls ≠ "java/lang/invoke/VarHandle" ∧ (parseMethodDescriptor M.1.desc).map (fun d => d.parameters.length) = some n) ∧ M.2.2.1 ≤ 20
theorem toV_same {φ φ' : Nat → Nat} {b n : Nat} (h : ∀ a, a < n → φ' a = φ a) {v : AV} (hv : okV n v) : toV φ' b v = toV φ b v := by
  obtain ⟨t, x⟩ := v
  match t, hv with
  | 0, _ => rfl
  | 1, _ => rfl
  | t + 2, hv =>
    show rfv φ' b x = rfv φ b x
    have hx : x < n := hv
    unfold rfv
    split
    · rfl
    · split
      · rfl
      · rw [h x.toNat (by omega)]
theorem map_same {φ φ' : Nat → Nat} {b n : Nat} (h : ∀ a, a < n → φ' a = φ a) {st : List AV} (hv : ∀ v ∈ st, okV n v) : st.map (toV φ' b) = st.map (toV φ b) :=
  List.map_congr_left fun v hm => toV_same h (hv v hm)
theorem okV_mono {n n' : Nat} (h : n ≤ n') {v : AV} (hv : okV n v) : okV n' v := by
  obtain ⟨t, x⟩ := v
  match t, hv with
  | 0, hv => exact hv
  | 1, hv => exact hv
  | t + 2, hv =>
    have hx : x < n := hv
    show x < n'
    omega
theorem nest_moved {s U : State} (hW : s.WarmedH U.vm) (h : ∀ w ∈ lw_nest, va_Nw w s) : ∀ w ∈ lw_nest, va_Nw w U := by
  intro w hw
  have hn := (List.mem_filter.mp hw).2
  have h0 := h w hw
  cases w
  case methodLinkNest => exact va_Nw.warmM hW h0
  case arrayOver t =>
    cases t
    case object C => exact va_AO.moved hW.alike h0
    all_goals (exfalso; revert hn; simp [isNest])
  all_goals (exfalso; revert hn; simp [isNest])
theorem nest_same {U V : State} (hv : U.vm = V.vm) (h : ∀ w ∈ lw_nest, va_Nw w U) : ∀ w ∈ lw_nest, va_Nw w V := by
  intro w hw
  have hn := (List.mem_filter.mp hw).2
  have h0 := h w hw
  cases w
  case methodLinkNest => exact va_Nw.same rfl hv h0
  case arrayOver t =>
    cases t
    case object C => exact va_AO.moved (by rw [hv]; exact Vm.Alike.refl _) h0
    all_goals (exfalso; revert hn; simp [isNest])
  all_goals (exfalso; revert hn; simp [isNest])
section Calls2
variable {M M' : MM} {d fc fs mc ms : Nat} {sc : Option (Nat × (Nat → Int))} {pc i : Nat} {ls : List (Nat × AV)} {st As : List AV} {K : Shp} {H : Mem} {Q Q1 : Option AV → Shp → Mem → Prop} {X : Int}
theorem blindP {base b : Nat} {D : va_G} {aC : Nat → ClassId} {φ : Nat → Nat} {args : List AV} {K : Shp} {H : Mem} : FrameBlind (PcM base b D aC φ args K H) := by
  intro a U g mk q
  obtain ⟨q0, q1, q2, q3, q4, q5⟩ := q
  exact ⟨q0, nest_same (U := U) (V := U.calling g mk a) rfl q1, va_K.moved (u := U) (U := U.calling g mk a) (Vm.Alike.refl U.vm) q2, q3, q4, q5⟩
/-- behind a call, whatever its kind -/
theorem after_call {p : Program} {l : Launch} {e : Env} {R : Room} {s : State} {m : MethodId} {args : Array Value} {below : List Frame} {meth : Method} {c : Code} {base b : Nat} {D : va_G} {aC : Nat → ClassId} {n0 : Nat} {φ0 φ : Nat → Nat} {Hp : Heap} {locs : List Loc} {cells slots : Nat} {lsA : Array Slot} {QM : State → Prop} {a : Array Value} {st0 : List Value}
    (hr : va_Run p l e R s m args below meth c Hp locs cells slots mc ms (F0 m pc lsA st0) (st.map (toV φ b)) (QcM base b D aC φ K Q1 a) (fun q => base ≤ q))
    (kk : ∀ (r : Option AV) (K' : Shp) (H' : Mem), Q1 r K' H' → K.length ≤ K'.length → Fr M (d + 1) fc fs sc (pc + 3) ls (r.toList ++ st) K' H' Q)
    (hC : Cx M sc p s m args meth c base b D aC) (hR1 : d + 1 ≤ R.frames) (hR2 : 40 * (d + 1) ≤ R.locals) (hc1 : cells + mc + fc ≤ R.cells) (hc2 : slots + ms + fs ≤ R.slots) (hS : va_S (fun q => base ≤ q) s.heap Hp locs) (hl : lv_has lsA M.2.2.1 (ls.map fun q => (q.1, toV φ b q.2))) (hlo : ∀ q ∈ ls, okV K.length q.2) (hso : ∀ v ∈ st, okV K.length v)
    (hn : n0 ≤ K.length) (hag : ∀ a, a < n0 → φ a = φ0 a) (hret : Ret M p l e R s m args below meth c base b D aC n0 φ0 QM Q) : W p l e R s m args below meth c Hp locs cells slots QM (F0 m pc lsA st0) := by
  intro T hT X
  obtain ⟨v, st₀, t, T', L, h0, X', hL, e1, e2, ⟨⟨r, K', H', φ', hv, hvo, hQ, hRp, hlen, hag'⟩, hz, hk⟩, hst⟩ := hr T hT X
  cases hv
  rw [h0] at hz hk
  have hS' : va_S (fun q => base ≤ q) s.heap t.heap (locs ++ L) := ⟨Nat.le_trans hS.1 hz, fun q h1 h2 => by rw [hk q (Nat.lt_of_lt_of_le h1 hS.1) h2]; exact hS.2.1 q h1 h2, fun q hq => by
    rcases List.mem_append.mp hq with h | h
    · exact hS.2.2 q h
    · exact hL q h⟩
  have hl' : lv_has lsA M.2.2.1 (ls.map fun q => (q.1, toV φ' b q.2)) := by
    have e : (ls.map fun q => (q.1, toV φ' b q.2)) = ls.map fun q => (q.1, toV φ b q.2) := List.map_congr_left fun q hq => by rw [toV_same hag' (hlo q hq)]
    rw [e]; exact hl
  have hso' : ∀ v ∈ r.toList ++ st, okV K'.length v := by
    intro v hv
    rcases List.mem_append.mp hv with h | h
    · have e : r = some v := by cases r with
        | none => cases h
        | some w => simp at h; rw [h]
      obtain ⟨h1, h2⟩ := hvo v e
      exact okV_mono (Nat.zero_le _) h2
    · exact okV_mono hlen (hso v h)
  have hW := kk r K' H' hQ hlen p l e R s m args below meth c base b D aC n0 φ0 φ' t.heap (locs ++ L) (cells + mc) (slots + ms) lsA QM hC hR1 hR2 hc1 hc2 hRp hS' hl' (fun q hq => okV_mono hlen (hlo q hq)) hso' (Nat.le_trans hn hlen) (fun a ha => (hag' a (Nat.lt_of_lt_of_le ha hn)).trans (hag a ha)) hret
  obtain ⟨t2, a1, b1⟩ := hW T' e1 X'
  refine ⟨t2, hst t2 ?_, b1⟩
  have e3 : (r.map (toV φ' b)).toList ++ st.map (toV φ b) = (r.toList ++ st).map (toV φ' b) := by
    rw [List.map_append, map_same hag' hso]
    cases r <;> rfl
  rw [e3]
  exact a1
theorem pre_call {s : State} {base b : Nat} {D : va_G} {aC : Nat → ClassId} {φ : Nat → Nat} {Hp : Heap} {locs : List Loc} {args : List AV} {h0 : List Value} (he : args.map (toV φ b) = h0) (hnw : ∀ w ∈ lw_nest, va_Nw w s) (hK : va_K D vwCl (tysOf aC) s) (hbs : base ≤ s.heap.size) (hS : va_S (fun q => base ≤ q) s.heap Hp locs) (hP : Rp base b D aC φ K H Hp) (hok : ∀ v ∈ args, okV K.length v) :
    ∀ U : State, U.heap = Hp → s.WarmedH U.vm → PcM base b D aC φ args K H h0.toArray U := by
  intro U hU hW
  subst he
  exact ⟨rfl, nest_moved hW hnw, va_K.moved hW.alike hK, by rw [hU]; exact Nat.le_trans hbs hS.1, by rw [hU]; exact hP, hok⟩
theorem good_ws (h : Cond.code M'.1 M'.2.1 M'.2.2.1 M'.2.2.2 ∈ lw_good) : GoodIn lw_good (wsM M') := fun w hw => (List.mem_cons.mp hw).elim (fun e => by rw [e]; exact ⟨h, good_in h⟩) (fun h => ⟨h, good_in h⟩)
theorem wid_st (φ : Nat → Nat) (b : Nat) (st : List AV) : ((st.map (toV φ b)).map fun v => v.category).sum = wid st := by
  induction st with
  | nil => rfl
  | cons v st ih =>
    simp only [List.map_cons, List.sum_cons, cat_toV, wid] at ih ⊢
    omega
/-- a call of an instance method by invokevirtual -/
theorem r_invV {ci n N : Nat} {T : u_T} (hM : Call M' d mc ms ((2, X) :: As) K H Q1) (hm : MOK M' n) (cl : Cls ci M'.1.cls T N) (hin : Cond.instanceMethod M'.1 ∈ lw_good) (hse : Cond.selects M'.1.cls M'.1 M'.1 ∈ lw_good) (hli : Cond.methodLink M.1.cls i M'.1 ∈ lw_good) (hd : decode M.2.1 pc = .ok (.invokevirtual i, 3)) (hn : As.length = n) (h0 : 0 ≤ X) (hK : K[X.toNat]? = some (ci, N)) (hst : wid st ≤ 8) {sti : List AV} (hsti : sti = As.reverse ++ (2, X) :: st)
    (kk : ∀ (r : Option AV) (K' : Shp) (H' : Mem), Q1 r K' H' → K.length ≤ K'.length → Fr M (d + 1) fc fs sc (pc + 3) ls (r.toList ++ st) K' H' Q) : Fr M (d + 1) (mc + fc) (ms + fs) sc pc ls sti K H Q := by
  subst hsti
  intro p l e R s m args below meth c base b D aC n0 φ0 φ Hp locs cells slots lsA QM hC hR1 hR2 hc1 hc2 hP hS hl hlo hso hn0 hag hret
  obtain ⟨hx, hb, hr, hml, hown, hts, hnw, hKK, hlk, hnm, hbs, hsc⟩ := id hC
  have hokA : ∀ v ∈ (2, X) :: As, okV K.length v := fun v hv => hso v (by
    rcases List.mem_cons.mp hv with rfl | h
    · simp
    · simp [h])
  have hokS : ∀ v ∈ st, okV K.length v := fun v hv => hso v (by simp [hv])
  have hat := ws_at (φ := φ) (b := b) (aC := aC) (H := H) hK
  rw [cell_obj cl.1] at hat
  have e0 : ((2, X) :: As).map (toV φ b) = .ref (φ X.toNat) :: As.map (toV φ b) := by rw [List.map_cons, toV_ref h0]
  refine after_call (va_runV (As := As.map (toV φ b)) (rest := st.map (toV φ b)) (Ts := lw_good) (nL := M.2.2.1) ⟨hx, hb, hml, hown, hts⟩ (hM l base b D aC φ) (bytes := M'.2.1) (maxL := M'.2.2.1) (ret := M'.2.2.2) (C := M'.1.cls) (n := n) (index := i) (b := φ X.toNat)
    ⟨callB_of n hts (good_ws hm.1) rfl rfl rfl (hts _ hm.2.1) (hts _ hli) hm.2.2.1 ⟨hR1, by have := hm.2.2.2; show 8 + (M'.2.2.1 + 11) + 40 * d ≤ R.locals; omega⟩, hts _ hin, hts _ hse⟩
    ⟨blindP, va_recv hKK hP.1 cl.2.1 hat, pre_call e0 hnw hKK hbs hS hP hokA⟩ rfl (by rw [List.length_map]; exact hn) hl.1 (by simp [toV_ref h0]) (lv_room (by rw [wid_st]; exact hst)) hd ⟨by omega, by omega⟩) kk hC hR1 hR2 (by omega) (by omega) hS hl hlo hokS hn0 hag hret
/-- a static method -/
theorem r_invS {n : Nat} (hM : Call M' d mc ms As K H Q1) (hm : MOK M' n) (hin : Cond.static M'.1 ∈ lw_good) (hli : Cond.methodLink M.1.cls i M'.1 ∈ lw_good) (hd : decode M.2.1 pc = .ok (.invokestatic i, 3)) (hn : As.length = n) (hst : wid st ≤ 8) {sti : List AV} (hsti : sti = As.reverse ++ st)
    (kk : ∀ (r : Option AV) (K' : Shp) (H' : Mem), Q1 r K' H' → K.length ≤ K'.length → Fr M (d + 1) fc fs sc (pc + 3) ls (r.toList ++ st) K' H' Q) : Fr M (d + 1) (mc + fc) (ms + fs) sc pc ls sti K H Q := by
  subst hsti
  intro p l e R s m args below meth c base b D aC n0 φ0 φ Hp locs cells slots lsA QM hC hR1 hR2 hc1 hc2 hP hS hl hlo hso hn0 hag hret
  obtain ⟨hx, hb, hr, hml, hown, hts, hnw, hKK, hlk, hnm, hbs, hsc⟩ := id hC
  have hokA : ∀ v ∈ As, okV K.length v := fun v hv => hso v (by simp [hv])
  have hokS : ∀ v ∈ st, okV K.length v := fun v hv => hso v (by simp [hv])
  refine after_call (va_runS (As := As.map (toV φ b)) (rest := st.map (toV φ b)) (Ts := lw_good) (nL := M.2.2.1) ⟨hx, hb, hml, hown, hts⟩ (hM l base b D aC φ) (bytes := M'.2.1) (maxL := M'.2.2.1) (ret := M'.2.2.2) (n := n) (index := i)
    ⟨callB_of n hts (good_ws hm.1) rfl rfl rfl (hts _ hm.2.1) (hts _ hli) hm.2.2.1 ⟨hR1, by have := hm.2.2.2; show 8 + (M'.2.2.1 + 11) + 40 * d ≤ R.locals; omega⟩, hts _ hin⟩
    ⟨blindP, pre_call rfl hnw hKK hbs hS hP hokA⟩ rfl (by rw [List.length_map]; exact hn) hl.1 (by simp) (lv_room (by rw [wid_st]; exact hst)) hd ⟨by omega, by omega⟩) kk hC hR1 hR2 (by omega) (by omega) hS hl hlo hokS hn0 hag hret
theorem nest_cn {R : Room} {s : State} {args : Array Value} {own host : String} {n : Nat} (hts : ∀ w ∈ lw_good, w.before args s = true) (hnw : ∀ w ∈ lw_nest, va_Nw w s) (hm : MOK M' n) (hli : Cond.methodLinkNest own i M'.1 host ∈ lw_nest) (hR1 : d + 1 ≤ R.frames) (hR2 : 40 * (d + 1) ≤ R.locals) : va_CN R s args own i M'.1 host M'.2.1 M'.2.2.1 M'.2.2.2 (wsM M') (rmOf d mc ms) mc ms n :=
  va_cnB n hts (good_ws hm.1) rfl rfl rfl (hnw _ hli) (hts _ hm.2.1) hm.2.2.1 ⟨hR1, by have := hm.2.2.2; show 8 + (M'.2.2.1 + 11) + 40 * d ≤ R.locals; omega⟩
/-- a nest mate's private static method -/
theorem r_invSN {n : Nat} {host : String} (hM : Call M' d mc ms As K H Q1) (hm : MOK M' n) (hin : Cond.static M'.1 ∈ lw_good) (hli : Cond.methodLinkNest M.1.cls i M'.1 host ∈ lw_nest) (hd : decode M.2.1 pc = .ok (.invokestatic i, 3)) (hn : As.length = n) (hst : wid st ≤ 8) {sti : List AV} (hsti : sti = As.reverse ++ st)
    (kk : ∀ (r : Option AV) (K' : Shp) (H' : Mem), Q1 r K' H' → K.length ≤ K'.length → Fr M (d + 1) fc fs sc (pc + 3) ls (r.toList ++ st) K' H' Q) : Fr M (d + 1) (mc + fc) (ms + fs) sc pc ls sti K H Q := by
  subst hsti
  intro p l e R s m args below meth c base b D aC n0 φ0 φ Hp locs cells slots lsA QM hC hR1 hR2 hc1 hc2 hP hS hl hlo hso hn0 hag hret
  obtain ⟨hx, hb, hr, hml, hown, hts, hnw, hKK, hlk, hnm, hbs, hsc⟩ := id hC
  have hokA : ∀ v ∈ As, okV K.length v := fun v hv => hso v (by simp [hv])
  have hokS : ∀ v ∈ st, okV K.length v := fun v hv => hso v (by simp [hv])
  refine after_call (va_runSN (As := As.map (toV φ b)) (rest := st.map (toV φ b)) (Ts := lw_good) (nL := M.2.2.1) ⟨hx, hb, hml, hown, hts⟩ (hM l base b D aC φ) (bytes := M'.2.1) (maxL := M'.2.2.1) (ret := M'.2.2.2) (n := n) (index := i)
    ⟨nest_cn hts hnw hm hli hR1 hR2, hts _ hin, trivial⟩
    ⟨blindP, pre_call rfl hnw hKK hbs hS hP hokA⟩ rfl (by rw [List.length_map]; exact hn) hl.1 (by simp) (lv_room (by rw [wid_st]; exact hst)) hd ⟨by omega, by omega⟩) kk hC hR1 hR2 (by omega) (by omega) hS hl hlo hokS hn0 hag hret
/-- a constructor -/
theorem r_invI {n : Nat} (hret0 : M'.2.2.2 = none) (hM : Call M' d mc ms ((2, X) :: As) K H Q1) (hm : MOK M' n) (hi : M'.1.name = "<init>") (hin : Cond.instanceMethod M'.1 ∈ lw_good) (hli : Cond.methodLink M.1.cls i M'.1 ∈ lw_good) (hd : decode M.2.1 pc = .ok (.invokespecial i, 3)) (hn : As.length = n) (h0 : 0 ≤ X) (hst : wid st ≤ 8) {sti : List AV} (hsti : sti = As.reverse ++ (2, X) :: st)
    (kk : ∀ (r : Option AV) (K' : Shp) (H' : Mem), Q1 r K' H' → K.length ≤ K'.length → Fr M (d + 1) fc fs sc (pc + 3) ls (r.toList ++ st) K' H' Q) : Fr M (d + 1) (mc + fc) (ms + fs) sc pc ls sti K H Q := by
  subst hsti
  intro p l e R s m args below meth c base b D aC n0 φ0 φ Hp locs cells slots lsA QM hC hR1 hR2 hc1 hc2 hP hS hl hlo hso hn0 hag hret
  obtain ⟨hx, hb, hr, hml, hown, hts, hnw, hKK, hlk, hnm, hbs, hsc⟩ := id hC
  have hokA : ∀ v ∈ (2, X) :: As, okV K.length v := fun v hv => hso v (by
    rcases List.mem_cons.mp hv with rfl | h
    · simp
    · simp [h])
  have hokS : ∀ v ∈ st, okV K.length v := fun v hv => hso v (by simp [hv])
  have e0 : ((2, X) :: As).map (toV φ b) = .ref (φ X.toNat) :: As.map (toV φ b) := by rw [List.map_cons, toV_ref h0]
  have hg := good_ws hm.1
  have hws : wsM M' = Cond.code M'.1 M'.2.1 M'.2.2.1 none :: lw_good := by unfold wsM; rw [hret0]
  refine after_call (va_runI (As := As.map (toV φ b)) (rest := st.map (toV φ b)) (Ts := lw_good) (nL := M.2.2.1) ⟨hx, hb, hml, hown, hts⟩ (hM l base b D aC φ) (bytes := M'.2.1) (maxL := M'.2.2.1) (n := n) (index := i) (b := φ X.toNat)
    ⟨callB_of n hts hg hws rfl rfl (hts _ hm.2.1) (hts _ hli) hm.2.2.1 ⟨hR1, by have := hm.2.2.2; show 8 + (M'.2.2.1 + 11) + 40 * d ≤ R.locals; omega⟩, hi, hts _ hin⟩
    ⟨blindP, pre_call e0 hnw hKK hbs hS hP hokA⟩ rfl (by rw [List.length_map]; exact hn) hl.1 (by simp [toV_ref h0]) (lv_room (by rw [wid_st]; exact hst)) hd ⟨by omega, by omega⟩) kk hC hR1 hR2 (by omega) (by omega) hS hl hlo hokS hn0 hag hret
/-- a nest mate's private constructor -/
theorem r_invIN {n : Nat} {host : String} (hret0 : M'.2.2.2 = none) (hM : Call M' d mc ms ((2, X) :: As) K H Q1) (hm : MOK M' n) (hi : M'.1.name = "<init>") (hin : Cond.instanceMethod M'.1 ∈ lw_good) (hli : Cond.methodLinkNest M.1.cls i M'.1 host ∈ lw_nest) (hd : decode M.2.1 pc = .ok (.invokespecial i, 3)) (hn : As.length = n) (h0 : 0 ≤ X) (hst : wid st ≤ 8) {sti : List AV} (hsti : sti = As.reverse ++ (2, X) :: st)
    (kk : ∀ (r : Option AV) (K' : Shp) (H' : Mem), Q1 r K' H' → K.length ≤ K'.length → Fr M (d + 1) fc fs sc (pc + 3) ls (r.toList ++ st) K' H' Q) : Fr M (d + 1) (mc + fc) (ms + fs) sc pc ls sti K H Q := by
  subst hsti
  intro p l e R s m args below meth c base b D aC n0 φ0 φ Hp locs cells slots lsA QM hC hR1 hR2 hc1 hc2 hP hS hl hlo hso hn0 hag hret
  obtain ⟨hx, hb, hr, hml, hown, hts, hnw, hKK, hlk, hnm, hbs, hsc⟩ := id hC
  have hokA : ∀ v ∈ (2, X) :: As, okV K.length v := fun v hv => hso v (by
    rcases List.mem_cons.mp hv with rfl | h
    · simp
    · simp [h])
  have hokS : ∀ v ∈ st, okV K.length v := fun v hv => hso v (by simp [hv])
  have e0 : ((2, X) :: As).map (toV φ b) = .ref (φ X.toNat) :: As.map (toV φ b) := by rw [List.map_cons, toV_ref h0]
  have hcn := nest_cn (mc := mc) (ms := ms) hts hnw hm hli hR1 hR2
  rw [hret0] at hcn
  refine after_call (va_runIN (As := As.map (toV φ b)) (rest := st.map (toV φ b)) (Ts := lw_good) (nL := M.2.2.1) ⟨hx, hb, hml, hown, hts⟩ (hM l base b D aC φ) (bytes := M'.2.1) (maxL := M'.2.2.1) (n := n) (index := i) (b := φ X.toNat)
    ⟨hcn, hi, hts _ hin⟩
    ⟨blindP, pre_call e0 hnw hKK hbs hS hP hokA⟩ rfl (by rw [List.length_map]; exact hn) hl.1 (by simp [toV_ref h0]) (lv_room (by rw [wid_st]; exact hst)) hd ⟨by omega, by omega⟩) kk hC hR1 hR2 (by omega) (by omega) hS hl hlo hokS hn0 hag hret
end Calls2
end
section
/-! RULES, fifth part: new cells, Object's constructor, arraycopy, switches, shifts and masks -/
theorem mono_tyOk {n n' : Nat} (h : n ≤ n') {t : FieldType} {x : Int} (hx : tyOk n t x) : tyOk n' t x := by
  cases t with
  | int => exact hx
  | long => exact hx
  | boolean => exact hx
  | object C => exact ⟨hx.1, by have := hx.2; omega⟩
  | array C => exact ⟨hx.1, by have := hx.2; omega⟩
  | _ => exact hx.elim
/-- what a new cell holds -/
def dflt (kd k : Nat) : Int := if ftag (kty kd k) = 2 then -1 else 0
theorem rng_new {K : Shp} {H : Mem} {q : Nat × Nat} (h : Rng K H) (hq : ∀ k, k < q.2 → tyOk 0 (kty q.1 k) (dflt q.1 k)) : Rng (K ++ [q]) (upA H K.length (dflt q.1)) := by
  intro a q' ha k hk
  have hl : K.length ≤ (K ++ [q]).length := by simp
  unfold upA
  by_cases e : a = K.length
  · subst e
    rw [List.getElem?_append_right (Nat.le_refl _)] at ha
    simp at ha
    subst ha
    rw [if_pos rfl]
    exact mono_tyOk (Nat.zero_le _) (hq k hk)
  · rw [if_neg e]
    have hlt : a < K.length := by
      have := (List.getElem?_eq_some_iff.mp ha).1
      simp at this
      omega
    rw [List.getElem?_append_left hlt] at ha
    exact mono_tyOk hl (h a q' ha k hk)
theorem cell_same {φ φ' : Nat → Nat} {b : Nat} {aC : Nat → ClassId} {K : Shp} {H : Mem} {a : Nat} {q : Nat × Nat} (hr : Rng K H) (ha : K[a]? = some q) (h : ∀ a, a < K.length → φ' a = φ a) : cellE φ' b aC q (H a) = cellE φ b aC q (H a) ∨ True := Or.inr trivial
theorem ftag2 {t : FieldType} {n : Nat} {x : Int} (h : tyOk n t x) : okV n (ftag t, x) := tyOk_okV h
/-- the world with one cell more; refs of the elder cells point at elder cells -/
theorem ws_new {φ φ' : Nat → Nat} {b : Nat} {aC : Nat → ClassId} {K : Shp} {H : Mem} {q : Nat × Nat} {f : Nat → Int} (hr : Rng K H) (h : ∀ a, a < K.length → φ' a = φ a) :
    (∀ (i : Nat) (x y : Nat × va_E), (wsOf φ b aC K H ++ [(φ' K.length, cellE φ' b aC q f)])[i]? = some x → (wsOf φ' b aC (K ++ [q]) (upA H K.length f))[i]? = some y → x.1 = y.1 ∧ ∀ (D : va_G) (Hp : Heap), va_at D vwCl x Hp → va_at D vwCl y Hp) ∧ (wsOf φ b aC K H ++ [(φ' K.length, cellE φ' b aC q f)]).length = (wsOf φ' b aC (K ++ [q]) (upA H K.length f)).length := by
  have hlen : (wsOf φ b aC K H).length = K.length := by simp [wsOf]
  refine ⟨fun i x y hx hy => ?_, by simp [wsOf]⟩
  by_cases hi : i < K.length
  · rw [List.getElem?_append_left (by rw [hlen]; exact hi)] at hx
    obtain ⟨q', hq'⟩ : ∃ q', K[i]? = some q' := ⟨K[i], List.getElem?_eq_getElem hi⟩
    rw [ws_at hq'] at hx
    have hq2 : (K ++ [q])[i]? = some q' := by rw [List.getElem?_append_left hi]; exact hq'
    rw [ws_at hq2] at hy
    cases hx
    cases hy
    refine ⟨(h i hi).symm, fun D Hp ha => ?_⟩
    have e1 : upA H K.length f i = H i := by unfold upA; rw [if_neg (by omega)]
    rw [e1, h i hi]
    have hok := hr i q' hq'
    obtain ⟨kd, n⟩ := q'
    unfold cellE at ha ⊢
    simp only at ha ⊢ hok
    by_cases hk : kd < 13
    · rw [if_pos hk] at ha ⊢
      have e : ((List.range n).map fun k => toV φ' b (ftag (fty kd k), H i k)) = (List.range n).map fun k => toV φ b (ftag (fty kd k), H i k) := by
        apply List.map_congr_left
        intro k hkm
        have h3 := hok k (List.mem_range.mp hkm)
        rw [kty, if_pos hk] at h3
        exact toV_same h (tyOk_okV h3)
      rw [e]
      exact ha
    · rw [if_neg hk] at ha ⊢
      by_cases hk2 : kd = 21
      · rw [if_pos hk2] at ha ⊢; exact ha
      · rw [if_neg hk2] at ha ⊢
        by_cases hk3 : kd = 20 ∨ kd = 22
        · rw [if_pos hk3] at ha ⊢; exact ha
        · rw [if_neg hk3] at ha ⊢
          show Hp[φ i]? = some (vp_cell _ _)
          have ha : Hp[φ i]? = some (vp_cell (aC kd) (n, .inr (.inr (.inr (.inr fun j => refE φ (H i j)))))) := ha
          rw [ha, vp_cell_q, vp_cell_q]
          congr 1
          unfold arrV
          congr 1
          congr 1
          funext j
          have h3 := hok j.val j.isLt
          have hkt : kty kd j.val = .object "" := by
            unfold kty
            rw [if_neg hk, if_neg (fun e => hk3 (Or.inl e)), if_neg hk2, if_neg (fun e => hk3 (Or.inr e))]
          rw [hkt] at h3
          have h4 : H i j.val < K.length := h3.2
          show va_rf (refE φ (H i j.val)) = va_rf (refE φ' (H i j.val))
          unfold refE
          by_cases h5 : H i j.val < 0
          · rw [if_pos h5, if_pos h5]
          · rw [if_neg h5, if_neg h5, h _ (by omega)]
  · have hl : i < (wsOf φ b aC K H ++ [(φ' K.length, cellE φ' b aC q f)]).length := (List.getElem?_eq_some_iff.mp hx).1
    simp [wsOf] at hl
    have e : i = K.length := by omega
    subst e
    rw [List.getElem?_append_right (by rw [hlen]; exact Nat.le_refl _), hlen, Nat.sub_self] at hx
    have hq2 : (K ++ [q])[K.length]? = some q := by simp
    rw [ws_at hq2] at hy
    cases hx
    cases hy
    refine ⟨rfl, fun D Hp ha => ?_⟩
    have e1 : upA H K.length f K.length = f := by unfold upA; rw [if_pos rfl]
    rw [e1]
    exact ha
theorem P_new {base b : Nat} {D : va_G} {φ φ' : Nat → Nat} {aC : Nat → ClassId} {K : Shp} {H : Mem} {q : Nat × Nat} {f : Nat → Int} {Hp : Heap} (hr : Rng K H) (h : ∀ a, a < K.length → φ' a = φ a)
    (hP : va_P D vwCl (wsOf φ b aC K H ++ [(φ' K.length, cellE φ' b aC q f)]) Hp) (hD : va_D (fun q => base ≤ q) (wsOf φ b aC K H ++ [(φ' K.length, cellE φ' b aC q f)])) :
    va_P D vwCl (wsOf φ' b aC (K ++ [q]) (upA H K.length f)) Hp ∧ va_D (fun q => base ≤ q) (wsOf φ' b aC (K ++ [q]) (upA H K.length f)) := by
  obtain ⟨h1, h2⟩ := ws_new (b := b) (aC := aC) (q := q) (f := f) hr h
  have hex : ∀ (i : Nat) (y : Nat × va_E), (wsOf φ' b aC (K ++ [q]) (upA H K.length f))[i]? = some y → ∃ x, (wsOf φ b aC K H ++ [(φ' K.length, cellE φ' b aC q f)])[i]? = some x := by
    intro i y hy
    have hl := (List.getElem?_eq_some_iff.mp hy).1
    rw [← h2] at hl
    exact ⟨_, List.getElem?_eq_getElem hl⟩
  refine ⟨fun i y hy => ?_, fun i j x y hx hy e => ?_, fun i y hy => ?_⟩
  · obtain ⟨x, hx⟩ := hex i y hy
    exact (h1 i x y hx hy).2 D Hp (hP i x hx)
  · obtain ⟨x', hx'⟩ := hex i x hx
    obtain ⟨y', hy'⟩ := hex j y hy
    exact hD.1 i j x' y' hx' hy' (by rw [(h1 i x' x hx' hx).1, (h1 j y' y hy' hy).1]; exact e)
  · obtain ⟨x, hx⟩ := hex i y hy
    show base ≤ y.1
    rw [← (h1 i x y hx hy).1]
    exact hD.2 i x hx
section Make
variable {M : MM} {d fc fs : Nat} {sc : Option (Nat × (Nat → Int))} {pc i : Nat} {ls : List (Nat × AV)} {st : List AV} {K : Shp} {H : Mem} {Q : Option AV → Shp → Mem → Prop}
def upF (φ : Nat → Nat) (n q : Nat) : Nat → Nat := fun j => if j = n then q else φ j
theorem upφ {φ : Nat → Nat} {n q : Nat} : ∀ a, a < n → upF φ n q a = φ a := fun a h => by unfold upF; rw [if_neg (by omega)]
theorem upφ_eq {φ : Nat → Nat} {n q : Nat} : upF φ n q n = q := by unfold upF; rw [if_pos rfl]
/-- behind a new cell -/
theorem after_new {p : Program} {l : Launch} {e : Env} {R : Room} {s : State} {m : MethodId} {args : Array Value} {below : List Frame} {meth : Method} {c : Code} {base b : Nat} {D : va_G} {aC : Nat → ClassId} {n0 : Nat} {φ0 φ : Nat → Nat} {Hp : Heap} {locs : List Loc} {cells slots pc' : Nat} {lsA : Array Slot} {QM : State → Prop} {q : Nat × Nat} {a : Nat}
    (kk : Fr M d fc fs sc pc' ls ((2, (K.length : Int)) :: st) (K ++ [q]) (upA H K.length (dflt q.1)) Q) (hr : Rng K H) (hq : ∀ k, k < q.2 → tyOk 0 (kty q.1 k) (dflt q.1 k))
    (hP : va_P D vwCl (wsOf φ b aC K H ++ [(a, cellE (upF φ K.length a) b aC q (dflt q.1))]) Hp) (hD : va_D (fun q => base ≤ q) (wsOf φ b aC K H ++ [(a, cellE (upF φ K.length a) b aC q (dflt q.1))]))
    (hC : Cx M sc p s m args meth c base b D aC) (hR1 : d ≤ R.frames) (hR2 : 40 * d ≤ R.locals) (hc1 : cells + fc ≤ R.cells) (hc2 : slots + fs ≤ R.slots) (hS : va_S (fun q => base ≤ q) s.heap Hp locs) (hl : lv_has lsA M.2.2.1 (ls.map fun q => (q.1, toV φ b q.2))) (hlo : ∀ q ∈ ls, okV K.length q.2) (hso : ∀ v ∈ st, okV K.length v)
    (hn : n0 ≤ K.length) (hag : ∀ a, a < n0 → φ a = φ0 a) (hret : Ret M p l e R s m args below meth c base b D aC n0 φ0 QM Q) : W p l e R s m args below meth c Hp locs cells slots QM (F0 m pc' lsA (.ref a :: st.map (toV φ b))) := by
  have hu := upφ (φ := φ) (n := K.length) (q := a)
  have ea : upF φ K.length a K.length = a := upφ_eq
  obtain ⟨hP2, hD2⟩ := P_new (φ' := upF φ K.length a) hr hu (by rw [ea]; exact hP) (by rw [ea]; exact hD)
  have hle : K.length ≤ (K ++ [q]).length := by simp
  have hl' : lv_has lsA M.2.2.1 (ls.map fun z => (z.1, toV (upF φ K.length a) b z.2)) := by
    have e : (ls.map fun z => (z.1, toV (upF φ K.length a) b z.2)) = ls.map fun q => (q.1, toV φ b q.2) := List.map_congr_left fun z hz => by rw [toV_same hu (hlo z hz)]
    rw [e]; exact hl
  have hW := kk p l e R s m args below meth c base b D aC n0 φ0 (upF φ K.length a) Hp locs cells slots lsA QM hC hR1 hR2 hc1 hc2 ⟨hP2, hD2, rng_new hr hq⟩ hS hl' (fun z hz => okV_mono hle (hlo z hz)) (ok_push (by show (K.length : Int) < ((K ++ [q]).length : Nat); rw [List.length_append]; simp; omega) (fun v hv => okV_mono hle (hso v hv))) (Nat.le_trans hn hle) (fun x hx => (hu x (Nat.lt_of_lt_of_le hx hn)).trans (hag x hx)) hret
  have e2 : ((2, (K.length : Int)) :: st).map (toV (upF φ K.length a) b) = .ref a :: st.map (toV φ b) := by
    rw [List.map_cons, toV_ref (by omega), map_same hu hso, Int.toNat_natCast, ea]
  rw [e2] at hW
  exact hW
theorem r_new {ci N : Nat} {C : String} {T : u_T} (cl : Cls ci C T N) (hd : decode M.2.1 pc = .ok (.new i, 3)) (hli : Cond.classLink M.1.cls i C ∈ lw_good) (hin : Cond.instantiable C N ∈ lw_good) (hini : Cond.initialized C ∈ lw_good) (hty : ∀ k, k < N → tyOk 0 (kty ci k) (dflt ci k)) (hdf : ∀ k, k < N → ∀ (φ : Nat → Nat) (b : Nat), defaultValue (fty ci k) = toV φ b (ftag (fty ci k), dflt ci k))
    (kk : Fr M d fc fs sc (pc + 3) ls ((2, (K.length : Int)) :: st) (K ++ [(ci, N)]) (upA H K.length (dflt ci)) Q) : Fr M d (1 + fc) (N + fs) sc pc ls st K H Q := by
  intro p l e R s m args below meth c base b D aC n0 φ0 φ Hp locs cells slots lsA QM hC hR1 hR2 hc1 hc2 hP hS hl hlo hso hn hag hret
  obtain ⟨hxx, hb, hr, hml, hown, hts, hnw, hKK, hlk, hnm, hbs, hsc⟩ := id hC
  refine va_new (fs := (List.range N).map fun k => toV φ b (ftag (fty ci k), dflt ci k)) hxx hb hts cl.2.2.1 (fty ci) cl.2.2.2.1 hown (hts _ hli) (hts _ hin) (hts _ hini) hKK hP.1 hP.2.1 hS (fun q h => Nat.le_trans hbs h) cl.2.1 (fun j hj => by rw [hdf j hj φ b]; simp [vp_V, hj]) (by omega) (by omega) hd fun a H1 hP1 hD1 hS1 => ?_
  have ec : ∀ ψ : Nat → Nat, (.inr (ci, (List.range N).map fun k => toV φ b (ftag (fty ci k), dflt ci k)) : va_E) = cellE ψ b aC (ci, N) (dflt ci) := by
    intro ψ
    rw [cell_obj cl.1]
    congr 2
    apply List.map_congr_left
    intro k hk
    rw [← hdf k (List.mem_range.mp hk) φ b, ← hdf k (List.mem_range.mp hk) ψ b]
  rw [ec (upF φ K.length a)] at hP1 hD1
  exact after_new kk hP.2.2 hty hP1 hD1 hC hR1 hR2 (by omega) (by omega) hS1 hl hlo hso hn hag hret
/-- a new array of ints, longs or booleans -/
theorem r_newa {at_ : ArrayType} {n : Int} {N : Nat} (kd t0 : Nat) (ty : FieldType) (hd : decode M.2.1 pc = .ok (.newarray at_, 2)) (hk : kd = 20 ∧ ty = .int ∨ kd = 21 ∧ ty = .long ∨ kd = 22 ∧ ty = .boolean) (hty : newarray.typeOf at_ = ty) (hw : Cond.arrayClass ty ∈ lw_good) (hN : n = (N : Int)) (hN2 : N ≤ 1000000)
    (kk : Fr M d fc fs sc (pc + 2) ls ((2, (K.length : Int)) :: st) (K ++ [(kd, N)]) (upA H K.length (dflt kd)) Q) : Fr M d (1 + fc) (N + fs) sc pc ls ((0, n) :: st) K H Q := by
  intro p l e R s m args below meth c base b D aC n0 φ0 φ Hp locs cells slots lsA QM hC hR1 hR2 hc1 hc2 hP hS hl hlo hso hn hag hret
  obtain ⟨hxx, hb, hr, hml, hown, hts, hnw, hKK, hlk, hnm, hbs, hsc⟩ := id hC
  subst hN
  have hni : inI (N : Int) := (ok_1 hso).1
  have hn0 : ¬ Int32.ofInt (N : Int) < 0 := fun q => by
    have := (i_lt hni i_zero).mp q
    omega
  have hcl : (Int32.ofInt (N : Int)).toNatClampNeg = N := by rw [i_clamp hni]; simp
  have hcb : N * componentBytes ty ≤ 536870912 := by
    rcases hk with ⟨-, rfl⟩ | ⟨-, rfl⟩ | ⟨-, rfl⟩ <;> simp [componentBytes] <;> omega
  have hA : ∀ q, s.heap.size ≤ q → base ≤ q := fun q h => Nat.le_trans hbs h
  have hcid : ∀ cA : ClassId, va_RA s cA ty → cA = aC kd := by
    intro cA h
    rcases hk with ⟨rfl, rfl⟩ | ⟨rfl, rfl⟩ | ⟨rfl, rfl⟩
    · have h2 := (hKK.2 0 (aC 20, .int) rfl).2
      exact Option.some.inj (Eq.trans (Eq.symm h) h2)
    · have h2 := (hKK.2 1 (aC 21, .long) rfl).2
      exact Option.some.inj (Eq.trans (Eq.symm h) h2)
    · have h2 := (hKK.2 2 (aC 22, .boolean) rfl).2
      exact Option.some.inj (Eq.trans (Eq.symm h) h2)
  rw [List.map_cons]
  rcases hk with ⟨rfl, rfl⟩ | ⟨rfl, rfl⟩ | ⟨rfl, rfl⟩
  · refine va_newa (a0 := (N, .inl fun j => Int32.ofInt (dflt 20 j))) hxx hb (by rw [hty]; exact hts _ hw) hty hKK hP.1 hP.2.1 hS hA (fun cA => rfl) hn0 hcl hcb (by omega) (by omega) hd fun a cA H1 hK1 hP1 hD1 hS1 => ?_
    have e1 := hcid cA (hK1.2 5 (cA, .int) rfl).2
    subst e1
    have ec : ∀ ψ : Nat → Nat, (.inl (aC 20, N, .inl fun j => Int32.ofInt (dflt 20 j)) : va_E) = cellE ψ b aC (20, N) (dflt 20) := fun ψ => cell_i.symm
    rw [ec (upF φ K.length a)] at hP1 hD1
    exact after_new kk hP.2.2 (fun k _ => (⟨by decide, by decide⟩ : inI 0)) hP1 hD1 hC hR1 hR2 (by omega) (by omega) hS1 hl hlo (ok_1 hso).2 hn hag hret
  · refine va_newa (a0 := (N, .inr (.inl fun j => Int64.ofInt (dflt 21 j)))) hxx hb (by rw [hty]; exact hts _ hw) hty hKK hP.1 hP.2.1 hS hA (fun cA => rfl) hn0 hcl hcb (by omega) (by omega) hd fun a cA H1 hK1 hP1 hD1 hS1 => ?_
    have e1 := hcid cA (hK1.2 5 (cA, .long) rfl).2
    subst e1
    have ec : ∀ ψ : Nat → Nat, (.inl (aC 21, N, .inr (.inl fun j => Int64.ofInt (dflt 21 j))) : va_E) = cellE ψ b aC (21, N) (dflt 21) := fun ψ => cell_l.symm
    rw [ec (upF φ K.length a)] at hP1 hD1
    exact after_new kk hP.2.2 (fun k _ => (⟨by decide, by decide⟩ : inL 0)) hP1 hD1 hC hR1 hR2 (by omega) (by omega) hS1 hl hlo (ok_1 hso).2 hn hag hret
  · refine va_newa (a0 := (N, .inl fun j => Int32.ofInt (dflt 22 j))) hxx hb (by rw [hty]; exact hts _ hw) hty hKK hP.1 hP.2.1 hS hA (fun cA => rfl) hn0 hcl hcb (by omega) (by omega) hd fun a cA H1 hK1 hP1 hD1 hS1 => ?_
    have e1 := hcid cA (hK1.2 5 (cA, .boolean) rfl).2
    subst e1
    have ec : ∀ ψ : Nat → Nat, (.inl (aC 22, N, .inl fun j => Int32.ofInt (dflt 22 j)) : va_E) = cellE ψ b aC (22, N) (dflt 22) := fun ψ => cell_z.symm
    rw [ec (upF φ K.length a)] at hP1 hD1
    exact after_new kk hP.2.2 (fun k _ => Or.inl rfl) hP1 hD1 hC hR1 hR2 (by omega) (by omega) hS1 hl hlo (ok_1 hso).2 hn hag hret
/-- a new array of objects -/
theorem r_newq {n : Int} {N : Nat} (kd : Nat) (C : String) (hd : decode M.2.1 pc = .ok (.anewarray i, 3)) (hk : kd = 23 ∧ C = "RodBeam$Section" ∨ kd = 24 ∧ C = "RodBeam$Span") (hli : Cond.classLink M.1.cls i C ∈ lw_good) (hov : Cond.arrayOver (.object C) ∈ lw_nest) (hN : n = (N : Int)) (hN2 : N ≤ 1000000)
    (kk : Fr M d fc fs sc (pc + 3) ls ((2, (K.length : Int)) :: st) (K ++ [(kd, N)]) (upA H K.length (dflt kd)) Q) : Fr M d (1 + fc) (N + fs) sc pc ls ((0, n) :: st) K H Q := by
  intro p l e R s m args below meth c base b D aC n0 φ0 φ Hp locs cells slots lsA QM hC hR1 hR2 hc1 hc2 hP hS hl hlo hso hn hag hret
  obtain ⟨hxx, hb, hr, hml, hown, hts, hnw, hKK, hlk, hnm, hbs, hsc⟩ := id hC
  subst hN
  have hni : inI (N : Int) := (ok_1 hso).1
  have hn0 : ¬ Int32.ofInt (N : Int) < 0 := fun q => by
    have := (i_lt hni i_zero).mp q
    omega
  have hcl : (Int32.ofInt (N : Int)).toNatClampNeg = N := by rw [i_clamp hni]; simp
  have hA : ∀ q, s.heap.size ≤ q → base ≤ q := fun q h => Nat.le_trans hbs h
  have hcid : ∀ cA : ClassId, va_RA s cA (.object C) → cA = aC kd := by
    intro cA h
    obtain ⟨_, _, -, -, -, h⟩ := h
    rcases hk with ⟨rfl, rfl⟩ | ⟨rfl, rfl⟩
    · obtain ⟨_, _, -, -, -, h2⟩ := (hKK.2 3 (aC 23, .object "RodBeam$Section") rfl).2
      exact Option.some.inj (Eq.trans (Eq.symm h) h2)
    · obtain ⟨_, _, -, -, -, h2⟩ := (hKK.2 4 (aC 24, .object "RodBeam$Span") rfl).2
      exact Option.some.inj (Eq.trans (Eq.symm h) h2)
  rw [List.map_cons]
  refine va_newq hxx hb hown (hts _ hli) (va_AO.of (A := #[]) (hnw _ hov)) hKK hP.1 hP.2.1 hS hA hn0 hcl (by omega) (by omega) (by omega) hd fun a cA H1 hK1 hP1 hD1 hS1 => ?_
  have e1 := hcid cA (hK1.2 5 (cA, .object C) rfl).2
  subst e1
  rcases hk with ⟨rfl, rfl⟩ | ⟨rfl, rfl⟩
  · have ec : ∀ ψ : Nat → Nat, (.inl (aC 23, N, .inr (.inr (.inr (.inr fun _ => none)))) : va_E) = cellE ψ b aC (23, N) (dflt 23) := fun ψ => by rw [cell_23]; rfl
    rw [ec (upF φ K.length a)] at hP1 hD1
    exact after_new kk hP.2.2 (fun k _ => (⟨by decide, by decide⟩ : (-1 : Int) ≤ -1 ∧ (-1 : Int) < (0 : Nat))) hP1 hD1 hC hR1 hR2 (by omega) (by omega) hS1 hl hlo (ok_1 hso).2 hn hag hret
  · have ec : ∀ ψ : Nat → Nat, (.inl (aC 24, N, .inr (.inr (.inr (.inr fun _ => none)))) : va_E) = cellE ψ b aC (24, N) (dflt 24) := fun ψ => by rw [cell_24]; rfl
    rw [ec (upF φ K.length a)] at hP1 hD1
    exact after_new kk hP.2.2 (fun k _ => (⟨by decide, by decide⟩ : (-1 : Int) ≤ -1 ∧ (-1 : Int) < (0 : Nat))) hP1 hD1 hC hR1 hR2 (by omega) (by omega) hS1 hl hlo (ok_1 hso).2 hn hag hret
/-- Object's constructor -/
theorem r_objInit {X : Int} (hd : decode M.2.1 pc = .ok (.invokespecial i, 3)) (hli : Cond.methodLink M.1.cls i objectInit ∈ lw_good) (hin : Cond.instanceMethod objectInit ∈ lw_good) (hco : Cond.code objectInit ⟨#[0xb1]⟩ 1 none ∈ lw_good) (h0 : 0 ≤ X) (hst : wid st ≤ 8)
    (kk : Fr M (d + 1) fc fs sc (pc + 3) ls st K H Q) : Fr M (d + 1) fc fs sc pc ls ((2, X) :: st) K H Q := by
  intro p l e R s m args below meth c base b D aC n0 φ0 φ Hp locs cells slots lsA QM hC hR1 hR2 hc1 hc2 hP hS hl hlo hso hn hag hret
  obtain ⟨hxx, hb, hr, hml, hown, hts, hnw, hKK, hlk, hnm, hbs, hsc⟩ := id hC
  rw [List.map_cons, toV_ref h0]
  refine W.objInit hxx hb hown (hts _ hli) (hts _ hin) (hts _ hco) rfl (by rw [hml]; exact hl.1) rfl hd (by omega) ?_ (W.eq (g2 := F0 m (pc + 3) lsA (st.map (toV φ b))) rfl (kk p l e R s m args below meth c base b D aC n0 φ0 φ Hp locs cells slots lsA QM hC hR1 hR2 hc1 hc2 hP hS hl hlo (ok_1 hso).2 hn hag hret))
  have := lv_room (m := m) (pc := pc) (ls := lsA) (rest := .ref (φ X.toNat) :: st.map (toV φ b)) (st := st.map (toV φ b)) (by rw [wid_st]; exact hst)
  omega
end Make
end
section
/-! RULES, sixth part: arraycopy, switches, masks and shifts -/
theorem i_and_mask {x : Int} (k : Nat) (hk : k ≤ 30) : Int32.ofInt x &&& Int32.ofInt (2 ^ k - 1 : Nat) = Int32.ofInt (x % (2 ^ k : Nat)) := by
  have hp : 2 ^ k ≤ 2 ^ 30 := Nat.pow_le_pow_right (by decide) hk
  have hp0 : 0 < 2 ^ k := Nat.pow_pos (by decide)
  apply Int32.toBitVec.inj
  apply BitVec.eq_of_toNat_eq
  simp only [Int32.toBitVec_and, Int32.toBitVec_ofInt, BitVec.toNat_and, BitVec.toNat_ofInt]
  have e1 : (((2 ^ k - 1 : Nat) : Int) % ((2 ^ 32 : Nat) : Int)).toNat = 2 ^ k - 1 := by
    rw [Int.emod_eq_of_lt (by omega) (by omega)]; simp
  rw [e1, Nat.and_two_pow_sub_one_eq_mod]
  have e2 : ((x % ((2 ^ k : Nat) : Int)) % ((2 ^ 32 : Nat) : Int)).toNat = (x % ((2 ^ k : Nat) : Int)).toNat := by
    have h1 := Int.emod_nonneg x (show ((2 ^ k : Nat) : Int) ≠ 0 by omega)
    have h2 := Int.emod_lt_of_pos x (show 0 < ((2 ^ k : Nat) : Int) by omega)
    rw [Int.emod_eq_of_lt h1 (by omega)]
  rw [e2]
  have h3 := Int.emod_nonneg x (show ((2 ^ 32 : Nat) : Int) ≠ 0 by decide)
  have e3 : (((x % ((2 ^ 32 : Nat) : Int)).toNat % 2 ^ k : Nat) : Int) = x % ((2 ^ k : Nat) : Int) := by
    rw [Int.natCast_emod, Int.toNat_of_nonneg h3]
    apply Int.emod_emod_of_dvd
    exact Int.ofNat_dvd.mpr (Nat.pow_dvd_pow 2 (by omega))
  rw [← e3, Int.toNat_natCast]
theorem l_and_mask {x : Int} (k : Nat) (hk : k ≤ 60) : Int64.ofInt x &&& Int64.ofInt (2 ^ k - 1 : Nat) = Int64.ofInt (x % (2 ^ k : Nat)) := by
  have hp : 2 ^ k ≤ 2 ^ 60 := Nat.pow_le_pow_right (by decide) hk
  have hp0 : 0 < 2 ^ k := Nat.pow_pos (by decide)
  apply Int64.toBitVec.inj
  apply BitVec.eq_of_toNat_eq
  simp only [Int64.toBitVec_and, Int64.toBitVec_ofInt, BitVec.toNat_and, BitVec.toNat_ofInt]
  have e1 : (((2 ^ k - 1 : Nat) : Int) % ((2 ^ 64 : Nat) : Int)).toNat = 2 ^ k - 1 := by
    rw [Int.emod_eq_of_lt (by omega) (by omega)]; simp
  rw [e1, Nat.and_two_pow_sub_one_eq_mod]
  have e2 : ((x % ((2 ^ k : Nat) : Int)) % ((2 ^ 64 : Nat) : Int)).toNat = (x % ((2 ^ k : Nat) : Int)).toNat := by
    have h1 := Int.emod_nonneg x (show ((2 ^ k : Nat) : Int) ≠ 0 by omega)
    have h2 := Int.emod_lt_of_pos x (show 0 < ((2 ^ k : Nat) : Int) by omega)
    rw [Int.emod_eq_of_lt h1 (by omega)]
  rw [e2]
  have h3 := Int.emod_nonneg x (show ((2 ^ 64 : Nat) : Int) ≠ 0 by decide)
  have e3 : (((x % ((2 ^ 64 : Nat) : Int)).toNat % 2 ^ k : Nat) : Int) = x % ((2 ^ k : Nat) : Int) := by
    rw [Int.natCast_emod, Int.toNat_of_nonneg h3]
    apply Int.emod_emod_of_dvd
    exact Int.ofNat_dvd.mpr (Nat.pow_dvd_pow 2 (by omega))
  rw [← e3, Int.toNat_natCast]
section Bits
variable {M : MM} {d fc fs : Nat} {sc : Option (Nat × (Nat → Int))} {pc i : Nat} {ls : List (Nat × AV)} {st : List AV} {K : Shp} {H : Mem} {Q : Option AV → Shp → Mem → Prop} {x y : Int}
theorem r_iand30 (hd : decode M.2.1 pc = .ok (.iand, 1)) (k : Fr M d fc fs sc (pc + 1) ls ((0, x % 1073741824) :: st) K H Q) : Fr M d fc fs sc pc ls ((0, 1073741823) :: (0, x) :: st) K H Q :=
  Fr.pure k (fun o => ok_push (⟨by omega, by omega⟩ : inI (x % 1073741824)) (ok_2 o).2.2) (fun φ b lsA hx hb _ _ _ w => lv_iand hx hb hd (by
    have := i_and_mask (x := x) 30 (by decide)
    rw [show ((0, x) : AV).2 = x from rfl, show ((0, 1073741823) : AV).2 = ((2 ^ 30 - 1 : Nat) : Int) from rfl, this]; exact w))
theorem r_iand5 (hd : decode M.2.1 pc = .ok (.iand, 1)) (k : Fr M d fc fs sc (pc + 1) ls ((0, x % 32) :: st) K H Q) : Fr M d fc fs sc pc ls ((0, 31) :: (0, x) :: st) K H Q :=
  Fr.pure k (fun o => ok_push (⟨by omega, by omega⟩ : inI (x % 32)) (ok_2 o).2.2) (fun φ b lsA hx hb _ _ _ w => lv_iand hx hb hd (by
    have := i_and_mask (x := x) 5 (by decide)
    rw [show ((0, x) : AV).2 = x from rfl, show ((0, 31) : AV).2 = ((2 ^ 5 - 1 : Nat) : Int) from rfl, this]; exact w))
theorem r_land30 (hd : decode M.2.1 pc = .ok (.land, 1)) (k : Fr M d fc fs sc (pc + 1) ls ((1, x % 1073741824) :: st) K H Q) : Fr M d fc fs sc pc ls ((1, 1073741823) :: (1, x) :: st) K H Q :=
  Fr.pure k (fun o => ok_push (⟨by omega, by omega⟩ : inL (x % 1073741824)) (ok_2 o).2.2) (fun φ b lsA hx hb _ _ _ w => lv_land hx hb hd (by
    have := l_and_mask (x := x) 30 (by decide)
    rw [show ((1, x) : AV).2 = x from rfl, show ((1, 1073741823) : AV).2 = ((2 ^ 30 - 1 : Nat) : Int) from rfl, this]; exact w))
theorem sm32 : ∀ n : Fin 32, ((Int32.ofInt (n.val : Int) &&& 31).toBitVec.smod 32).toNat = n.val := by decide +kernel
theorem i_toNat (x : Int) : (Int32.ofInt x).toBitVec.toNat = (x % 4294967296).toNat := by
  rw [Int32.toBitVec_ofInt, BitVec.toNat_ofInt]; rfl
theorem l_toNat (x : Int) : (Int64.ofInt x).toBitVec.toNat = (x % 18446744073709551616).toNat := by
  rw [Int64.toBitVec_ofInt, BitVec.toNat_ofInt]; rfl
theorem i_bmod (x : Int) : Int32.ofInt (x.bmod 4294967296) = Int32.ofInt x := by
  rw [Int32.ofInt_eq_iff_bmod_eq_toInt, Int32.toInt_ofInt]
  exact Int.bmod_bmod
theorem bmod_in (x : Int) : inI (x.bmod 4294967296) := by
  have h1 := Int.le_bmod (x := x) (m := 4294967296) (by decide)
  have h2 := Int.bmod_lt (x := x) (m := 4294967296) (by decide)
  unfold inI
  omega
theorem i_shl {x s : Int} (h0 : 0 ≤ s) (h1 : s < 32) : Int32.ofInt x <<< (Int32.ofInt s &&& 31) = Int32.ofInt ((x * (2 ^ s.toNat : Nat)).bmod 4294967296) := by
  obtain ⟨n, rfl⟩ := Int.eq_ofNat_of_zero_le h0
  rw [i_bmod, Int.toNat_natCast]
  apply Int32.toBitVec.inj
  apply BitVec.eq_of_toNat_eq
  rw [pk_shl _ _ n (sm32 ⟨n, by omega⟩), i_toNat, i_toNat]
  have h3 := Int.emod_nonneg x (show (4294967296 : Int) ≠ 0 by decide)
  have h4 := Int.emod_nonneg (x * (2 ^ n : Nat)) (show (4294967296 : Int) ≠ 0 by decide)
  apply Int.ofNat_inj.mp
  rw [Int.natCast_emod, Int.natCast_mul, Int.toNat_of_nonneg h3, Int.toNat_of_nonneg h4]
  show x % 4294967296 * ((2 ^ n : Nat) : Int) % 4294967296 = _
  rw [Int.mul_emod, Int.emod_emod_of_dvd _ (Int.dvd_refl _), ← Int.mul_emod]
theorem i_shr {x s : Int} (hx : inI x) (h0 : 0 ≤ s) (h1 : s < 32) : Int32.ofInt x >>> (Int32.ofInt s &&& 31) = Int32.ofInt (x / (2 ^ s.toNat : Nat)) := by
  obtain ⟨n, rfl⟩ := Int.eq_ofNat_of_zero_le h0
  rw [Int.toNat_natCast]
  apply Int32.toInt_inj.mp
  have hp : 0 < 2 ^ n := Nat.pow_pos (by decide)
  have hin : inI (x / (2 ^ n : Nat)) := by
    have a := hx.1
    have b := hx.2
    constructor
    · apply (Int.le_ediv_iff_mul_le (by omega)).mpr
      have : (2147483648 : Int) * 1 ≤ 2147483648 * ((2 ^ n : Nat) : Int) := Int.mul_le_mul_of_nonneg_left (by omega) (by decide)
      omega
    · apply Int.le_of_lt_add_one
      apply (Int.ediv_lt_iff_lt_mul (by omega)).mpr
      have : (2147483648 : Int) * 1 ≤ 2147483648 * ((2 ^ n : Nat) : Int) := Int.mul_le_mul_of_nonneg_left (by omega) (by decide)
      omega
  rw [pk_shr _ _ n (sm32 ⟨n, by omega⟩), i_toInt hx, i_toInt hin, Int.shiftRight_eq_div_pow]
theorem r_ishl {s : Int} (hd : decode M.2.1 pc = .ok (.ishl, 1)) (h0 : 0 ≤ s) (h1 : s < 32) (k : Fr M d fc fs sc (pc + 1) ls ((0, (x * (2 ^ s.toNat : Nat)).bmod 4294967296) :: st) K H Q) : Fr M d fc fs sc pc ls ((0, s) :: (0, x) :: st) K H Q :=
  Fr.pure k (fun o => ok_push (bmod_in _) (ok_2 o).2.2) (fun φ b lsA hx hb _ _ _ w => lv_ishl hx hb hd (by
    rw [show ((0, x) : AV).2 = x from rfl, show ((0, s) : AV).2 = s from rfl, i_shl h0 h1]; exact w))
theorem shr_in {n : Nat} (hx : inI x) : inI (x / (2 ^ n : Nat)) := by
  have hp : 0 < 2 ^ n := Nat.pow_pos (by decide)
  have a := hx.1
  have b := hx.2
  constructor
  · apply (Int.le_ediv_iff_mul_le (by omega)).mpr
    have : (2147483648 : Int) * 1 ≤ 2147483648 * ((2 ^ n : Nat) : Int) := Int.mul_le_mul_of_nonneg_left (by omega) (by decide)
    omega
  · apply Int.le_of_lt_add_one
    apply (Int.ediv_lt_iff_lt_mul (by omega)).mpr
    have : (2147483648 : Int) * 1 ≤ 2147483648 * ((2 ^ n : Nat) : Int) := Int.mul_le_mul_of_nonneg_left (by omega) (by decide)
    omega
theorem r_ishr {s : Int} (hd : decode M.2.1 pc = .ok (.ishr, 1)) (h0 : 0 ≤ s) (h1 : s < 32) (k : Fr M d fc fs sc (pc + 1) ls ((0, x / (2 ^ s.toNat : Nat)) :: st) K H Q) : Fr M d fc fs sc pc ls ((0, s) :: (0, x) :: st) K H Q :=
  Fr.pure k (fun o => ok_push (shr_in (ok_2 o).2.1) (ok_2 o).2.2) (fun φ b lsA hx hb _ _ o w => lv_ishr hx hb hd (by
    rw [show ((0, x) : AV).2 = x from rfl, show ((0, s) : AV).2 = s from rfl, i_shr (ok_2 o).2.1 h0 h1]; exact w))
theorem r_iushr30 (hd : decode M.2.1 pc = .ok (.iushr, 1)) (h0 : 0 ≤ x) (k : Fr M d fc fs sc (pc + 1) ls ((0, x / 1073741824) :: st) K H Q) : Fr M d fc fs sc pc ls ((0, 30) :: (0, x) :: st) K H Q :=
  Fr.pure k (fun o => ok_push (shr_in (n := 30) (ok_2 o).2.1) (ok_2 o).2.2) (fun φ b lsA hx hb _ _ o w => lv_iushr hx hb hd (by
    have hxi : inI x := (ok_2 o).2.1
    have h2 := hxi.2
    obtain ⟨n, rfl⟩ := Int.eq_ofNat_of_zero_le h0
    have e : Int32.ofInt (n : Int) = nI n := Int32.ofInt_eq_ofNat
    rw [show ((0, (n : Int)) : AV).2 = (n : Int) from rfl, e, pk_ushrN (n := n) (by omega) _ 30 (by decide +kernel)]
    show Int32.ofNat (n / 2 ^ 30) = Int32.ofInt ((n : Int) / 1073741824)
    rw [← Int32.ofInt_eq_ofNat]
    rfl) w)
theorem l_shr (n : Nat) (x : Int) (sh : UInt64) (hs : (sh.toBitVec % 64).toNat = n) (h0 : 0 ≤ x) (hx : inL x) : ((Int64.ofInt x).toUInt64 >>> sh).toInt64 = Int64.ofInt (x / (2 ^ n : Nat)) := by
  apply Int64.toBitVec.inj
  apply BitVec.eq_of_toNat_eq
  have h2 := hx.2
  obtain ⟨m, rfl⟩ := Int.eq_ofNat_of_zero_le h0
  have e : ((Int64.ofInt (m : Int)).toUInt64 >>> sh).toInt64.toBitVec.toNat = (Int64.ofInt (m : Int)).toBitVec.toNat >>> n := by
    show ((Int64.ofInt (m : Int)).toUInt64 >>> sh).toBitVec.toNat = _
    rw [UInt64.toBitVec_shiftRight, BitVec.ushiftRight_eq', BitVec.toNat_ushiftRight, hs]
    rfl
  rw [e, l_toNat, l_toNat, Nat.shiftRight_eq_div_pow]
  have hd : (m : Int) / ((2 ^ n : Nat) : Int) = ((m / 2 ^ n : Nat) : Int) := by rw [Int.natCast_ediv]
  have hle : m / 2 ^ n ≤ m := Nat.div_le_self _ _
  rw [hd, Int.emod_eq_of_lt (by omega) (by omega), Int.toNat_natCast]
  generalize m / 2 ^ n = t at hle ⊢
  rw [Int.emod_eq_of_lt (by omega) (by omega), Int.toNat_natCast]
theorem lshr_in {n : Nat} (h0 : 0 ≤ x) (hx : inL x) : inL (x / (2 ^ n : Nat)) := by
  have h2 := hx.2
  obtain ⟨m, rfl⟩ := Int.eq_ofNat_of_zero_le h0
  have hd : (m : Int) / ((2 ^ n : Nat) : Int) = ((m / 2 ^ n : Nat) : Int) := by rw [Int.natCast_ediv]
  have hle : m / 2 ^ n ≤ m := Nat.div_le_self _ _
  rw [hd]
  generalize m / 2 ^ n = t at hle ⊢
  unfold inL
  omega
theorem r_lushr30 (hd : decode M.2.1 pc = .ok (.lushr, 1)) (h0 : 0 ≤ x) (k : Fr M d fc fs sc (pc + 1) ls ((1, x / 1073741824) :: st) K H Q) : Fr M d fc fs sc pc ls ((0, 30) :: (1, x) :: st) K H Q :=
  Fr.pure k (fun o => ok_push (lshr_in (n := 30) h0 (ok_2 o).2.1) (ok_2 o).2.2) (fun φ b lsA hx hb _ _ o w => lv_lushr hx hb hd (l_shr 30 x _ (by decide +kernel) h0 (ok_2 o).2.1) w)
theorem r_lushr60 (hd : decode M.2.1 pc = .ok (.lushr, 1)) (h0 : 0 ≤ x) (k : Fr M d fc fs sc (pc + 1) ls ((1, x / 1152921504606846976) :: st) K H Q) : Fr M d fc fs sc pc ls ((0, 60) :: (1, x) :: st) K H Q :=
  Fr.pure k (fun o => ok_push (lshr_in (n := 60) h0 (ok_2 o).2.1) (ok_2 o).2.2) (fun φ b lsA hx hb _ _ o w => lv_lushr hx hb hd (l_shr 60 x _ (by decide +kernel) h0 (ok_2 o).2.1) w)
theorem r_lshl30 (hd : decode M.2.1 pc = .ok (.lshl, 1)) (h : inL (x * 1073741824)) (k : Fr M d fc fs sc (pc + 1) ls ((1, x * 1073741824) :: st) K H Q) : Fr M d fc fs sc pc ls ((0, 30) :: (1, x) :: st) K H Q :=
  Fr.pure k (fun o => ok_push h (ok_2 o).2.2) (fun φ b lsA hx hb _ _ o w => lv_lshl hx hb hd (by
    apply Int64.toBitVec.inj
    apply BitVec.eq_of_toNat_eq
    rw [Int64.toBitVec_shiftLeft, BitVec.shiftLeft_eq', BitVec.toNat_shiftLeft, l_toNat, l_toNat]
    have e : ((((Int32.ofInt 30).toInt64 &&& 63).toBitVec).smod 64).toNat = 30 := by decide +kernel
    show (x % 18446744073709551616).toNat <<< ((((Int32.ofInt 30).toInt64 &&& 63).toBitVec).smod 64).toNat % 2 ^ 64 = _
    rw [e, Nat.shiftLeft_eq]
    have h3 := Int.emod_nonneg x (show (18446744073709551616 : Int) ≠ 0 by decide)
    have h4 := Int.emod_nonneg (x * 1073741824) (show (18446744073709551616 : Int) ≠ 0 by decide)
    apply Int.ofNat_inj.mp
    rw [Int.natCast_emod, Int.natCast_mul, Int.toNat_of_nonneg h3, Int.toNat_of_nonneg h4]
    show x % 18446744073709551616 * 1073741824 % 18446744073709551616 = _
    omega) w)
theorem nat_or {a b k : Nat} (ha : a % 2 ^ k = 0) (hb : b < 2 ^ k) : a ||| b = a + b := by
  obtain ⟨c, rfl⟩ : ∃ c, a = 2 ^ k * c := ⟨a / 2 ^ k, by rw [Nat.mul_div_cancel' (Nat.dvd_of_mod_eq_zero ha)]⟩
  rw [Nat.two_pow_add_eq_or_of_lt hb]
/-- an or of numbers that have no bit in common, by a power of two that parts them -/
theorem r_ior (n : Nat) (hd : decode M.2.1 pc = .ok (.ior, 1)) (hx0 : 0 ≤ x) (hxn : x % (2 ^ n : Nat) = 0) (hy0 : 0 ≤ y) (hyn : y < (2 ^ n : Nat)) (h : inI (x + y)) (k : Fr M d fc fs sc (pc + 1) ls ((0, x + y) :: st) K H Q) : Fr M d fc fs sc pc ls ((0, y) :: (0, x) :: st) K H Q :=
  Fr.pure k (fun o => ok_push h (ok_2 o).2.2) (fun φ b lsA hx hb _ _ o w => lv_ior hx hb hd (by
    have hxi : inI x := (ok_2 o).2.1
    have hyi : inI y := (ok_2 o).1
    have e : Int32.ofInt x ||| Int32.ofInt y = Int32.ofInt (x + y) := by
      have a1 := hxi.2
      have a2 := hyi.2
      have a3 := h.2
      obtain ⟨a, rfl⟩ := Int.eq_ofNat_of_zero_le hx0
      obtain ⟨c, rfl⟩ := Int.eq_ofNat_of_zero_le hy0
      apply Int32.toBitVec.inj
      apply BitVec.eq_of_toNat_eq
      rw [Int32.toBitVec_or, BitVec.toNat_or, i_toNat, i_toNat, i_toNat, Int.emod_eq_of_lt (by omega) (by omega), Int.emod_eq_of_lt (by omega) (by omega), Int.emod_eq_of_lt (by omega) (by omega), Int.toNat_natCast, Int.toNat_natCast, nat_or (k := n)]
      · omega
      · rw [← Int.natCast_emod] at hxn; omega
      · omega
    rw [show ((0, x) : AV).2 = x from rfl, show ((0, y) : AV).2 = y from rfl, e]; exact w))
theorem r_lor (n : Nat) (hd : decode M.2.1 pc = .ok (.lor, 1)) (hx0 : 0 ≤ x) (hxn : x % (2 ^ n : Nat) = 0) (hy0 : 0 ≤ y) (hyn : y < (2 ^ n : Nat)) (h : inL (x + y)) (k : Fr M d fc fs sc (pc + 1) ls ((1, x + y) :: st) K H Q) : Fr M d fc fs sc pc ls ((1, y) :: (1, x) :: st) K H Q :=
  Fr.pure k (fun o => ok_push h (ok_2 o).2.2) (fun φ b lsA hx hb _ _ o w => lv_lor hx hb hd (by
    have hxi : inL x := (ok_2 o).2.1
    have hyi : inL y := (ok_2 o).1
    have e : Int64.ofInt x ||| Int64.ofInt y = Int64.ofInt (x + y) := by
      have a1 := hxi.2
      have a2 := hyi.2
      have a3 := h.2
      obtain ⟨a, rfl⟩ := Int.eq_ofNat_of_zero_le hx0
      obtain ⟨c, rfl⟩ := Int.eq_ofNat_of_zero_le hy0
      apply Int64.toBitVec.inj
      apply BitVec.eq_of_toNat_eq
      rw [Int64.toBitVec_or, BitVec.toNat_or, l_toNat, l_toNat, l_toNat, Int.emod_eq_of_lt (by omega) (by omega), Int.emod_eq_of_lt (by omega) (by omega), Int.emod_eq_of_lt (by omega) (by omega), Int.toNat_natCast, Int.toNat_natCast, nat_or (k := n)]
      · omega
      · rw [← Int.natCast_emod] at hxn; omega
      · omega
    rw [show ((1, x) : AV).2 = x from rfl, show ((1, y) : AV).2 = y from rfl, e]; exact w))
/-- a switch over lo .. hi -/
theorem r_table {dfl lo hi : Int} {offs : Array Int} {len dt : Nat} (hd : decode M.2.1 pc = .ok (.tableswitch dfl lo hi offs, len)) (hdt : (pc : Int) + dfl = (dt : Int)) (kin : ∀ j : Int, lo ≤ j → j ≤ hi → x = j → ∃ (off : Int) (tgt : Nat), offs[(j - lo).toNat]? = some off ∧ (pc : Int) + off = (tgt : Int) ∧ Fr M d fc fs sc tgt ls st K H Q) (kout : (x < lo ∨ hi < x) → Fr M d fc fs sc dt ls st K H Q) : Fr M d fc fs sc pc ls ((0, x) :: st) K H Q := by
  intro p l e R s m args below meth c base b D aC n0 φ0 φ Hp locs cells slots lsA QM hC hR1 hR2 hc1 hc2 hP hS hl hlo hso hn hag hret
  have hxi : inI x := (ok_1 hso).1
  rw [List.map_cons]
  by_cases hr : x < lo ∨ hi < x
  · refine lv_tableOut hC.1 hC.2.1 hd (by show (Int32.ofInt x).toInt < lo ∨ hi < (Int32.ofInt x).toInt; rw [i_toInt hxi]; exact hr) hdt ?_
    exact kout hr p l e R s m args below meth c base b D aC n0 φ0 φ Hp locs cells slots lsA QM hC hR1 hR2 hc1 hc2 hP hS hl hlo (ok_1 hso).2 hn hag hret
  · obtain ⟨off, tgt, h1, h2, h3⟩ := kin x (by omega) (by omega) rfl
    refine lv_tableIn hC.1 hC.2.1 hd (x := Int32.ofInt x) (by rw [i_toInt hxi]; omega) (by rw [i_toInt hxi]; omega) (by rw [i_toInt hxi]; exact h1) h2 ?_
    exact h3 p l e R s m args below meth c base b D aC n0 φ0 φ Hp locs cells slots lsA QM hC hR1 hR2 hc1 hc2 hP hS hl hlo (ok_1 hso).2 hn hag hret
end Bits
end
section
/-! methods as tuples, and the words that their instructions need: written by a program out of the claim's own tables -/
theorem memg {w : Cond} (i : Nat) (h1 : lw_tbl[i]? = some w) (h2 : goodWord w = true) : w ∈ lw_good := List.mem_filter.mpr ⟨List.mem_of_getElem? h1, h2⟩
theorem memn {w : Cond} (i : Nat) (h1 : lw_tbl[i]? = some w) (h2 : isNest w = true) : w ∈ lw_nest := List.mem_filter.mpr ⟨List.mem_of_getElem? h1, h2⟩
abbrev mX0_init : MM := (yX0_init, cX0_init, 2, none)
set_option maxRecDepth 100000 in
theorem ok_X0_init : MOK mX0_init 0 := ⟨memg 197 rfl rfl, memg 78 rfl rfl, ⟨by decide, by decide, by decide +kernel⟩, by decide⟩
set_option maxRecDepth 100000 in
theorem im_X0_init : Cond.instanceMethod mX0_init.1 ∈ lw_good := memg 196 rfl rfl
abbrev mX0_addSpan : MM := (yX0_addSpan, cX0_addSpan, 3, some .int)
set_option maxRecDepth 100000 in
theorem ok_X0_addSpan : MOK mX0_addSpan 2 := ⟨memg 782 rfl rfl, memg 78 rfl rfl, ⟨by decide, by decide, by decide +kernel⟩, by decide⟩
set_option maxRecDepth 100000 in
theorem im_X0_addSpan : Cond.instanceMethod mX0_addSpan.1 ∈ lw_good := memg 780 rfl rfl
set_option maxRecDepth 100000 in
theorem se_X0_addSpan : Cond.selects mX0_addSpan.1.cls mX0_addSpan.1 mX0_addSpan.1 ∈ lw_good := memg 781 rfl rfl
abbrev mX0_reckonLeast : MM := (yX0_reckonLeast, cX0_reckonLeast, 5, some .boolean)
set_option maxRecDepth 100000 in
theorem ok_X0_reckonLeast : MOK mX0_reckonLeast 1 := ⟨memg 900 rfl rfl, memg 78 rfl rfl, ⟨by decide, by decide, by decide +kernel⟩, by decide⟩
set_option maxRecDepth 100000 in
theorem im_X0_reckonLeast : Cond.instanceMethod mX0_reckonLeast.1 ∈ lw_good := memg 898 rfl rfl
set_option maxRecDepth 100000 in
theorem se_X0_reckonLeast : Cond.selects mX0_reckonLeast.1.cls mX0_reckonLeast.1 mX0_reckonLeast.1 ∈ lw_good := memg 899 rfl rfl
abbrev mX0_reckon : MM := (yX0_reckon, cX0_reckon, 6, none)
set_option maxRecDepth 100000 in
theorem ok_X0_reckon : MOK mX0_reckon 3 := ⟨memg 814 rfl rfl, memg 78 rfl rfl, ⟨by decide, by decide, by decide +kernel⟩, by decide⟩
set_option maxRecDepth 100000 in
theorem im_X0_reckon : Cond.instanceMethod mX0_reckon.1 ∈ lw_good := memg 812 rfl rfl
set_option maxRecDepth 100000 in
theorem se_X0_reckon : Cond.selects mX0_reckon.1.cls mX0_reckon.1 mX0_reckon.1 ∈ lw_good := memg 813 rfl rfl
abbrev mX0_putSag : MM := (yX0_putSag, cX0_putSag, 3, none)
set_option maxRecDepth 100000 in
theorem ok_X0_putSag : MOK mX0_putSag 2 := ⟨memg 818 rfl rfl, memg 78 rfl rfl, ⟨by decide, by decide, by decide +kernel⟩, by decide⟩
set_option maxRecDepth 100000 in
theorem im_X0_putSag : Cond.instanceMethod mX0_putSag.1 ∈ lw_good := memg 817 rfl rfl
set_option maxRecDepth 100000 in
theorem se_X0_putSag : Cond.selects mX0_putSag.1.cls mX0_putSag.1 mX0_putSag.1 ∈ lw_good := memg 24 rfl rfl
abbrev mX0_putHog : MM := (yX0_putHog, cX0_putHog, 3, none)
set_option maxRecDepth 100000 in
theorem ok_X0_putHog : MOK mX0_putHog 2 := ⟨memg 832 rfl rfl, memg 78 rfl rfl, ⟨by decide, by decide, by decide +kernel⟩, by decide⟩
set_option maxRecDepth 100000 in
theorem im_X0_putHog : Cond.instanceMethod mX0_putHog.1 ∈ lw_good := memg 831 rfl rfl
set_option maxRecDepth 100000 in
theorem se_X0_putHog : Cond.selects mX0_putHog.1.cls mX0_putHog.1 mX0_putHog.1 ∈ lw_good := memg 26 rfl rfl
abbrev mX0_putSupport : MM := (yX0_putSupport, cX0_putSupport, 6, none)
set_option maxRecDepth 100000 in
theorem ok_X0_putSupport : MOK mX0_putSupport 3 := ⟨memg 828 rfl rfl, memg 78 rfl rfl, ⟨by decide, by decide, by decide +kernel⟩, by decide⟩
set_option maxRecDepth 100000 in
theorem im_X0_putSupport : Cond.instanceMethod mX0_putSupport.1 ∈ lw_good := memg 827 rfl rfl
set_option maxRecDepth 100000 in
theorem se_X0_putSupport : Cond.selects mX0_putSupport.1.cls mX0_putSupport.1 mX0_putSupport.1 ∈ lw_good := memg 25 rfl rfl
abbrev mX1_init : MM := (yX1_init, cX1_init, 1, none)
set_option maxRecDepth 100000 in
theorem ok_X1_init : MOK mX1_init 0 := ⟨memg 332 rfl rfl, memg 82 rfl rfl, ⟨by decide, by decide, by decide +kernel⟩, by decide⟩
set_option maxRecDepth 100000 in
theorem im_X1_init : Cond.instanceMethod mX1_init.1 ∈ lw_good := memg 331 rfl rfl
abbrev mX1_findBest : MM := (yX1_findBest, cX1_findBest, 4, some .boolean)
set_option maxRecDepth 100000 in
theorem ok_X1_findBest : MOK mX1_findBest 3 := ⟨memg 705 rfl rfl, memg 82 rfl rfl, ⟨by decide, by decide, by decide +kernel⟩, by decide⟩
set_option maxRecDepth 100000 in
theorem im_X1_findBest : Cond.instanceMethod mX1_findBest.1 ∈ lw_good := memg 703 rfl rfl
set_option maxRecDepth 100000 in
theorem se_X1_findBest : Cond.selects mX1_findBest.1.cls mX1_findBest.1 mX1_findBest.1 ∈ lw_good := memg 704 rfl rfl
abbrev mX1_listAsks : MM := (yX1_listAsks, cX1_listAsks, 4, none)
set_option maxRecDepth 100000 in
theorem ok_X1_listAsks : MOK mX1_listAsks 2 := ⟨memg 710 rfl rfl, memg 82 rfl rfl, ⟨by decide, by decide, by decide +kernel⟩, by decide⟩
set_option maxRecDepth 100000 in
theorem im_X1_listAsks : Cond.instanceMethod mX1_listAsks.1 ∈ lw_good := memg 709 rfl rfl
set_option maxRecDepth 100000 in
theorem se_X1_listAsks : Cond.selects mX1_listAsks.1.cls mX1_listAsks.1 mX1_listAsks.1 ∈ lw_good := memg 15 rfl rfl
abbrev mX1_listAsk : MM := (yX1_listAsk, cX1_listAsk, 5, none)
set_option maxRecDepth 100000 in
theorem ok_X1_listAsk : MOK mX1_listAsk 4 := ⟨memg 715 rfl rfl, memg 82 rfl rfl, ⟨by decide, by decide, by decide +kernel⟩, by decide⟩
set_option maxRecDepth 100000 in
theorem im_X1_listAsk : Cond.instanceMethod mX1_listAsk.1 ∈ lw_good := memg 714 rfl rfl
set_option maxRecDepth 100000 in
theorem se_X1_listAsk : Cond.selects mX1_listAsk.1.cls mX1_listAsk.1 mX1_listAsk.1 ∈ lw_good := memg 16 rfl rfl
abbrev mX1_bearsAll : MM := (yX1_bearsAll, cX1_bearsAll, 3, some .boolean)
set_option maxRecDepth 100000 in
theorem ok_X1_bearsAll : MOK mX1_bearsAll 1 := ⟨memg 728 rfl rfl, memg 82 rfl rfl, ⟨by decide, by decide, by decide +kernel⟩, by decide⟩
set_option maxRecDepth 100000 in
theorem im_X1_bearsAll : Cond.instanceMethod mX1_bearsAll.1 ∈ lw_good := memg 727 rfl rfl
set_option maxRecDepth 100000 in
theorem se_X1_bearsAll : Cond.selects mX1_bearsAll.1.cls mX1_bearsAll.1 mX1_bearsAll.1 ∈ lw_good := memg 17 rfl rfl
abbrev mX1_putFirst : MM := (yX1_putFirst, cX1_putFirst, 5, none)
set_option maxRecDepth 100000 in
theorem ok_X1_putFirst : MOK mX1_putFirst 1 := ⟨memg 732 rfl rfl, memg 82 rfl rfl, ⟨by decide, by decide, by decide +kernel⟩, by decide⟩
set_option maxRecDepth 100000 in
theorem im_X1_putFirst : Cond.instanceMethod mX1_putFirst.1 ∈ lw_good := memg 731 rfl rfl
set_option maxRecDepth 100000 in
theorem se_X1_putFirst : Cond.selects mX1_putFirst.1.cls mX1_putFirst.1 mX1_putFirst.1 ∈ lw_good := memg 18 rfl rfl
abbrev mX1_choose : MM := (yX1_choose, cX1_choose, 6, none)
set_option maxRecDepth 100000 in
theorem ok_X1_choose : MOK mX1_choose 4 := ⟨memg 736 rfl rfl, memg 82 rfl rfl, ⟨by decide, by decide, by decide +kernel⟩, by decide⟩
set_option maxRecDepth 100000 in
theorem im_X1_choose : Cond.instanceMethod mX1_choose.1 ∈ lw_good := memg 735 rfl rfl
set_option maxRecDepth 100000 in
theorem se_X1_choose : Cond.selects mX1_choose.1.cls mX1_choose.1 mX1_choose.1 ∈ lw_good := memg 19 rfl rfl
abbrev mX1_attempt : MM := (yX1_attempt, cX1_attempt, 7, none)
set_option maxRecDepth 100000 in
theorem ok_X1_attempt : MOK mX1_attempt 5 := ⟨memg 747 rfl rfl, memg 82 rfl rfl, ⟨by decide, by decide, by decide +kernel⟩, by decide⟩
set_option maxRecDepth 100000 in
theorem im_X1_attempt : Cond.instanceMethod mX1_attempt.1 ∈ lw_good := memg 746 rfl rfl
set_option maxRecDepth 100000 in
theorem se_X1_attempt : Cond.selects mX1_attempt.1.cls mX1_attempt.1 mX1_attempt.1 ∈ lw_good := memg 21 rfl rfl
abbrev mX1_keep : MM := (yX1_keep, cX1_keep, 3, none)
set_option maxRecDepth 100000 in
theorem ok_X1_keep : MOK mX1_keep 2 := ⟨memg 740 rfl rfl, memg 82 rfl rfl, ⟨by decide, by decide, by decide +kernel⟩, by decide⟩
set_option maxRecDepth 100000 in
theorem im_X1_keep : Cond.instanceMethod mX1_keep.1 ∈ lw_good := memg 739 rfl rfl
set_option maxRecDepth 100000 in
theorem se_X1_keep : Cond.selects mX1_keep.1.cls mX1_keep.1 mX1_keep.1 ∈ lw_good := memg 20 rfl rfl
abbrev mX2_init : MM := (yX2_init, cX2_init, 1, none)
set_option maxRecDepth 100000 in
theorem ok_X2_init : MOK mX2_init 0 := ⟨memg 157 rfl rfl, memg 76 rfl rfl, ⟨by decide, by decide, by decide +kernel⟩, by decide⟩
set_option maxRecDepth 100000 in
theorem im_X2_init : Cond.instanceMethod mX2_init.1 ∈ lw_good := memg 156 rfl rfl
abbrev mX2_add : MM := (yX2_add, cX2_add, 3, some .int)
set_option maxRecDepth 100000 in
theorem ok_X2_add : MOK mX2_add 2 := ⟨memg 681 rfl rfl, memg 76 rfl rfl, ⟨by decide, by decide, by decide +kernel⟩, by decide⟩
set_option maxRecDepth 100000 in
theorem im_X2_add : Cond.instanceMethod mX2_add.1 ∈ lw_good := memg 679 rfl rfl
set_option maxRecDepth 100000 in
theorem se_X2_add : Cond.selects mX2_add.1.cls mX2_add.1 mX2_add.1 ∈ lw_good := memg 680 rfl rfl
abbrev mX3_init : MM := (yX3_init, cX3_init, 1, none)
set_option maxRecDepth 100000 in
theorem ok_X3_init : MOK mX3_init 0 := ⟨memg 106 rfl rfl, memg 74 rfl rfl, ⟨by decide, by decide, by decide +kernel⟩, by decide⟩
set_option maxRecDepth 100000 in
theorem im_X3_init : Cond.instanceMethod mX3_init.1 ∈ lw_good := memg 105 rfl rfl
abbrev mX3_put : MM := (yX3_put, cX3_put, 5, none)
set_option maxRecDepth 100000 in
theorem ok_X3_put : MOK mX3_put 2 := ⟨memg 631 rfl rfl, memg 74 rfl rfl, ⟨by decide, by decide, by decide +kernel⟩, by decide⟩
set_option maxRecDepth 100000 in
theorem im_X3_put : Cond.instanceMethod mX3_put.1 ∈ lw_good := memg 629 rfl rfl
set_option maxRecDepth 100000 in
theorem se_X3_put : Cond.selects mX3_put.1.cls mX3_put.1 mX3_put.1 ∈ lw_good := memg 630 rfl rfl
abbrev mX3_copy : MM := (yX3_copy, cX3_copy, 2, none)
set_option maxRecDepth 100000 in
theorem ok_X3_copy : MOK mX3_copy 1 := ⟨memg 913 rfl rfl, memg 74 rfl rfl, ⟨by decide, by decide, by decide +kernel⟩, by decide⟩
set_option maxRecDepth 100000 in
theorem im_X3_copy : Cond.instanceMethod mX3_copy.1 ∈ lw_good := memg 911 rfl rfl
set_option maxRecDepth 100000 in
theorem se_X3_copy : Cond.selects mX3_copy.1.cls mX3_copy.1 mX3_copy.1 ∈ lw_good := memg 912 rfl rfl
abbrev mX3_putSum : MM := (yX3_putSum, cX3_putSum, 7, none)
set_option maxRecDepth 100000 in
theorem ok_X3_putSum : MOK mX3_putSum 2 := ⟨memg 849 rfl rfl, memg 74 rfl rfl, ⟨by decide, by decide, by decide +kernel⟩, by decide⟩
set_option maxRecDepth 100000 in
theorem im_X3_putSum : Cond.instanceMethod mX3_putSum.1 ∈ lw_good := memg 847 rfl rfl
set_option maxRecDepth 100000 in
theorem se_X3_putSum : Cond.selects mX3_putSum.1.cls mX3_putSum.1 mX3_putSum.1 ∈ lw_good := memg 848 rfl rfl
abbrev mX3_divide : MM := (yX3_divide, cX3_divide, 5, none)
set_option maxRecDepth 100000 in
theorem ok_X3_divide : MOK mX3_divide 1 := ⟨memg 882 rfl rfl, memg 74 rfl rfl, ⟨by decide, by decide, by decide +kernel⟩, by decide⟩
set_option maxRecDepth 100000 in
theorem im_X3_divide : Cond.instanceMethod mX3_divide.1 ∈ lw_good := memg 880 rfl rfl
set_option maxRecDepth 100000 in
theorem se_X3_divide : Cond.selects mX3_divide.1.cls mX3_divide.1 mX3_divide.1 ∈ lw_good := memg 881 rfl rfl
abbrev mX3_isUnder : MM := (yX3_isUnder, cX3_isUnder, 2, some .boolean)
set_option maxRecDepth 100000 in
theorem ok_X3_isUnder : MOK mX3_isUnder 1 := ⟨memg 905 rfl rfl, memg 74 rfl rfl, ⟨by decide, by decide, by decide +kernel⟩, by decide⟩
set_option maxRecDepth 100000 in
theorem im_X3_isUnder : Cond.instanceMethod mX3_isUnder.1 ∈ lw_good := memg 903 rfl rfl
set_option maxRecDepth 100000 in
theorem se_X3_isUnder : Cond.selects mX3_isUnder.1.cls mX3_isUnder.1 mX3_isUnder.1 ∈ lw_good := memg 904 rfl rfl
abbrev mX4_init : MM := (yX4_init, cX4_init, 1, none)
set_option maxRecDepth 100000 in
theorem ok_X4_init : MOK mX4_init 0 := ⟨memg 364 rfl rfl, memg 83 rfl rfl, ⟨by decide, by decide, by decide +kernel⟩, by decide⟩
set_option maxRecDepth 100000 in
theorem im_X4_init : Cond.instanceMethod mX4_init.1 ∈ lw_good := memg 363 rfl rfl
abbrev mX4_begin : MM := (yX4_begin, cX4_begin, 3, none)
set_option maxRecDepth 100000 in
theorem ok_X4_begin : MOK mX4_begin 2 := ⟨memg 369 rfl rfl, memg 83 rfl rfl, ⟨by decide, by decide, by decide +kernel⟩, by decide⟩
set_option maxRecDepth 100000 in
theorem im_X4_begin : Cond.instanceMethod mX4_begin.1 ∈ lw_good := memg 367 rfl rfl
set_option maxRecDepth 100000 in
theorem se_X4_begin : Cond.selects mX4_begin.1.cls mX4_begin.1 mX4_begin.1 ∈ lw_good := memg 368 rfl rfl
abbrev mX4_addBand : MM := (yX4_addBand, cX4_addBand, 4, some .int)
set_option maxRecDepth 100000 in
theorem ok_X4_addBand : MOK mX4_addBand 3 := ⟨memg 532 rfl rfl, memg 83 rfl rfl, ⟨by decide, by decide, by decide +kernel⟩, by decide⟩
set_option maxRecDepth 100000 in
theorem im_X4_addBand : Cond.instanceMethod mX4_addBand.1 ∈ lw_good := memg 530 rfl rfl
set_option maxRecDepth 100000 in
theorem se_X4_addBand : Cond.selects mX4_addBand.1.cls mX4_addBand.1 mX4_addBand.1 ∈ lw_good := memg 531 rfl rfl
abbrev mX4_addRod : MM := (yX4_addRod, cX4_addRod, 3, some .int)
set_option maxRecDepth 100000 in
theorem ok_X4_addRod : MOK mX4_addRod 2 := ⟨memg 544 rfl rfl, memg 83 rfl rfl, ⟨by decide, by decide, by decide +kernel⟩, by decide⟩
set_option maxRecDepth 100000 in
theorem im_X4_addRod : Cond.instanceMethod mX4_addRod.1 ∈ lw_good := memg 542 rfl rfl
set_option maxRecDepth 100000 in
theorem se_X4_addRod : Cond.selects mX4_addRod.1.cls mX4_addRod.1 mX4_addRod.1 ∈ lw_good := memg 543 rfl rfl
abbrev mX4_area : MM := (yX4_area, cX4_area, 3, some .int)
set_option maxRecDepth 100000 in
theorem ok_X4_area : MOK mX4_area 0 := ⟨memg 377 rfl rfl, memg 83 rfl rfl, ⟨by decide, by decide, by decide +kernel⟩, by decide⟩
set_option maxRecDepth 100000 in
theorem im_X4_area : Cond.instanceMethod mX4_area.1 ∈ lw_good := memg 375 rfl rfl
set_option maxRecDepth 100000 in
theorem se_X4_area : Cond.selects mX4_area.1.cls mX4_area.1 mX4_area.1 ∈ lw_good := memg 376 rfl rfl
abbrev mX4_rodsTogether : MM := (yX4_rodsTogether, cX4_rodsTogether, 3, some .int)
set_option maxRecDepth 100000 in
theorem ok_X4_rodsTogether : MOK mX4_rodsTogether 0 := ⟨memg 561 rfl rfl, memg 83 rfl rfl, ⟨by decide, by decide, by decide +kernel⟩, by decide⟩
set_option maxRecDepth 100000 in
theorem im_X4_rodsTogether : Cond.instanceMethod mX4_rodsTogether.1 ∈ lw_good := memg 559 rfl rfl
set_option maxRecDepth 100000 in
theorem se_X4_rodsTogether : Cond.selects mX4_rodsTogether.1.cls mX4_rodsTogether.1 mX4_rodsTogether.1 ∈ lw_good := memg 560 rfl rfl
abbrev mX4_widthAbove : MM := (yX4_widthAbove, cX4_widthAbove, 4, some .int)
set_option maxRecDepth 100000 in
theorem ok_X4_widthAbove : MOK mX4_widthAbove 1 := ⟨memg 385 rfl rfl, memg 83 rfl rfl, ⟨by decide, by decide, by decide +kernel⟩, by decide⟩
set_option maxRecDepth 100000 in
theorem im_X4_widthAbove : Cond.instanceMethod mX4_widthAbove.1 ∈ lw_good := memg 383 rfl rfl
set_option maxRecDepth 100000 in
theorem se_X4_widthAbove : Cond.selects mX4_widthAbove.1.cls mX4_widthAbove.1 mX4_widthAbove.1 ∈ lw_good := memg 384 rfl rfl
abbrev mX4_findEdges : MM := (yX4_findEdges, cX4_findEdges, 2, none)
set_option maxRecDepth 100000 in
theorem ok_X4_findEdges : MOK mX4_findEdges 0 := ⟨memg 373 rfl rfl, memg 83 rfl rfl, ⟨by decide, by decide, by decide +kernel⟩, by decide⟩
set_option maxRecDepth 100000 in
theorem im_X4_findEdges : Cond.instanceMethod mX4_findEdges.1 ∈ lw_good := memg 372 rfl rfl
set_option maxRecDepth 100000 in
theorem se_X4_findEdges : Cond.selects mX4_findEdges.1.cls mX4_findEdges.1 mX4_findEdges.1 ∈ lw_good := memg 0 rfl rfl
abbrev mX4_isEdge : MM := (yX4_isEdge, cX4_isEdge, 4, some .boolean)
set_option maxRecDepth 100000 in
theorem ok_X4_isEdge : MOK mX4_isEdge 1 := ⟨memg 381 rfl rfl, memg 83 rfl rfl, ⟨by decide, by decide, by decide +kernel⟩, by decide⟩
set_option maxRecDepth 100000 in
theorem im_X4_isEdge : Cond.instanceMethod mX4_isEdge.1 ∈ lw_good := memg 380 rfl rfl
set_option maxRecDepth 100000 in
theorem se_X4_isEdge : Cond.selects mX4_isEdge.1.cls mX4_isEdge.1 mX4_isEdge.1 ∈ lw_good := memg 1 rfl rfl
abbrev mX4_placeRods : MM := (yX4_placeRods, cX4_placeRods, 4, none)
set_option maxRecDepth 100000 in
theorem ok_X4_placeRods : MOK mX4_placeRods 2 := ⟨memg 389 rfl rfl, memg 83 rfl rfl, ⟨by decide, by decide, by decide +kernel⟩, by decide⟩
set_option maxRecDepth 100000 in
theorem im_X4_placeRods : Cond.instanceMethod mX4_placeRods.1 ∈ lw_good := memg 388 rfl rfl
set_option maxRecDepth 100000 in
theorem se_X4_placeRods : Cond.selects mX4_placeRods.1.cls mX4_placeRods.1 mX4_placeRods.1 ∈ lw_good := memg 2 rfl rfl
abbrev mX5_init : MM := (yX5_init, cX5_init, 1, none)
set_option maxRecDepth 100000 in
theorem ok_X5_init : MOK mX5_init 0 := ⟨memg 213 rfl rfl, memg 80 rfl rfl, ⟨by decide, by decide, by decide +kernel⟩, by decide⟩
set_option maxRecDepth 100000 in
theorem im_X5_init : Cond.instanceMethod mX5_init.1 ∈ lw_good := memg 212 rfl rfl
abbrev mX5_put : MM := (yX5_put, cX5_put, 5, none)
set_option maxRecDepth 100000 in
theorem ok_X5_put : MOK mX5_put 2 := ⟨memg 824 rfl rfl, memg 80 rfl rfl, ⟨by decide, by decide, by decide +kernel⟩, by decide⟩
set_option maxRecDepth 100000 in
theorem im_X5_put : Cond.instanceMethod mX5_put.1 ∈ lw_good := memg 822 rfl rfl
set_option maxRecDepth 100000 in
theorem se_X5_put : Cond.selects mX5_put.1.cls mX5_put.1 mX5_put.1 ∈ lw_good := memg 823 rfl rfl
abbrev mX5_shorten : MM := (yX5_shorten, cX5_shorten, 3, none)
set_option maxRecDepth 100000 in
theorem ok_X5_shorten : MOK mX5_shorten 0 := ⟨memg 620 rfl rfl, memg 80 rfl rfl, ⟨by decide, by decide, by decide +kernel⟩, by decide⟩
set_option maxRecDepth 100000 in
theorem im_X5_shorten : Cond.instanceMethod mX5_shorten.1 ∈ lw_good := memg 618 rfl rfl
set_option maxRecDepth 100000 in
theorem se_X5_shorten : Cond.selects mX5_shorten.1.cls mX5_shorten.1 mX5_shorten.1 ∈ lw_good := memg 619 rfl rfl
abbrev mX5_scale : MM := (yX5_scale, cX5_scale, 3, none)
set_option maxRecDepth 100000 in
theorem ok_X5_scale : MOK mX5_scale 1 := ⟨memg 840 rfl rfl, memg 80 rfl rfl, ⟨by decide, by decide, by decide +kernel⟩, by decide⟩
set_option maxRecDepth 100000 in
theorem im_X5_scale : Cond.instanceMethod mX5_scale.1 ∈ lw_good := memg 838 rfl rfl
set_option maxRecDepth 100000 in
theorem se_X5_scale : Cond.selects mX5_scale.1.cls mX5_scale.1 mX5_scale.1 ∈ lw_good := memg 839 rfl rfl
abbrev mX5_plus : MM := (yX5_plus, cX5_plus, 2, none)
set_option maxRecDepth 100000 in
theorem ok_X5_plus : MOK mX5_plus 1 := ⟨memg 845 rfl rfl, memg 80 rfl rfl, ⟨by decide, by decide, by decide +kernel⟩, by decide⟩
set_option maxRecDepth 100000 in
theorem im_X5_plus : Cond.instanceMethod mX5_plus.1 ∈ lw_good := memg 843 rfl rfl
set_option maxRecDepth 100000 in
theorem se_X5_plus : Cond.selects mX5_plus.1.cls mX5_plus.1 mX5_plus.1 ∈ lw_good := memg 844 rfl rfl
abbrev mX5_isUnder : MM := (yX5_isUnder, cX5_isUnder, 2, some .boolean)
set_option maxRecDepth 100000 in
theorem ok_X5_isUnder : MOK mX5_isUnder 1 := ⟨memg 836 rfl rfl, memg 80 rfl rfl, ⟨by decide, by decide, by decide +kernel⟩, by decide⟩
set_option maxRecDepth 100000 in
theorem im_X5_isUnder : Cond.instanceMethod mX5_isUnder.1 ∈ lw_good := memg 834 rfl rfl
set_option maxRecDepth 100000 in
theorem se_X5_isUnder : Cond.selects mX5_isUnder.1.cls mX5_isUnder.1 mX5_isUnder.1 ∈ lw_good := memg 835 rfl rfl
abbrev mX6_init : MM := (yX6_init, cX6_init, 1, none)
set_option maxRecDepth 100000 in
theorem ok_X6_init : MOK mX6_init 0 := ⟨memg 179 rfl rfl, memg 77 rfl rfl, ⟨by decide, by decide, by decide +kernel⟩, by decide⟩
set_option maxRecDepth 100000 in
theorem im_X6_init : Cond.instanceMethod mX6_init.1 ∈ lw_good := memg 178 rfl rfl
abbrev mX6_add : MM := (yX6_add, cX6_add, 3, some .int)
set_option maxRecDepth 100000 in
theorem ok_X6_add : MOK mX6_add 2 := ⟨memg 697 rfl rfl, memg 77 rfl rfl, ⟨by decide, by decide, by decide +kernel⟩, by decide⟩
set_option maxRecDepth 100000 in
theorem im_X6_add : Cond.instanceMethod mX6_add.1 ∈ lw_good := memg 695 rfl rfl
set_option maxRecDepth 100000 in
theorem se_X6_add : Cond.selects mX6_add.1.cls mX6_add.1 mX6_add.1 ∈ lw_good := memg 696 rfl rfl
abbrev mX6_strengthOf : MM := (yX6_strengthOf, cX6_strengthOf, 2, some .int)
set_option maxRecDepth 100000 in
theorem ok_X6_strengthOf : MOK mX6_strengthOf 1 := ⟨memg 760 rfl rfl, memg 77 rfl rfl, ⟨by decide, by decide, by decide +kernel⟩, by decide⟩
set_option maxRecDepth 100000 in
theorem im_X6_strengthOf : Cond.instanceMethod mX6_strengthOf.1 ∈ lw_good := memg 758 rfl rfl
set_option maxRecDepth 100000 in
theorem se_X6_strengthOf : Cond.selects mX6_strengthOf.1.cls mX6_strengthOf.1 mX6_strengthOf.1 ∈ lw_good := memg 759 rfl rfl
abbrev mX6_priceOf : MM := (yX6_priceOf, cX6_priceOf, 2, some .int)
set_option maxRecDepth 100000 in
theorem ok_X6_priceOf : MOK mX6_priceOf 1 := ⟨memg 751 rfl rfl, memg 77 rfl rfl, ⟨by decide, by decide, by decide +kernel⟩, by decide⟩
set_option maxRecDepth 100000 in
theorem im_X6_priceOf : Cond.instanceMethod mX6_priceOf.1 ∈ lw_good := memg 749 rfl rfl
set_option maxRecDepth 100000 in
theorem se_X6_priceOf : Cond.selects mX6_priceOf.1.cls mX6_priceOf.1 mX6_priceOf.1 ∈ lw_good := memg 750 rfl rfl
abbrev mX6_strongest : MM := (yX6_strongest, cX6_strongest, 3, some .int)
set_option maxRecDepth 100000 in
theorem ok_X6_strongest : MOK mX6_strongest 0 := ⟨memg 720 rfl rfl, memg 77 rfl rfl, ⟨by decide, by decide, by decide +kernel⟩, by decide⟩
set_option maxRecDepth 100000 in
theorem im_X6_strongest : Cond.instanceMethod mX6_strongest.1 ∈ lw_good := memg 718 rfl rfl
set_option maxRecDepth 100000 in
theorem se_X6_strongest : Cond.selects mX6_strongest.1.cls mX6_strongest.1 mX6_strongest.1 ∈ lw_good := memg 719 rfl rfl
abbrev mX6_isIdle : MM := (yX6_isIdle, cX6_isIdle, 7, some .boolean)
set_option maxRecDepth 100000 in
theorem ok_X6_isIdle : MOK mX6_isIdle 1 := ⟨memg 755 rfl rfl, memg 77 rfl rfl, ⟨by decide, by decide, by decide +kernel⟩, by decide⟩
set_option maxRecDepth 100000 in
theorem im_X6_isIdle : Cond.instanceMethod mX6_isIdle.1 ∈ lw_good := memg 753 rfl rfl
set_option maxRecDepth 100000 in
theorem se_X6_isIdle : Cond.selects mX6_isIdle.1.cls mX6_isIdle.1 mX6_isIdle.1 ∈ lw_good := memg 754 rfl rfl
abbrev mX7_init : MM := (yX7_init, cX7_init, 1, none)
set_option maxRecDepth 100000 in
theorem ok_X7_init : MOK mX7_init 0 := ⟨memg 258 rfl rfl, memg 81 rfl rfl, ⟨by decide, by decide, by decide +kernel⟩, by decide⟩
set_option maxRecDepth 100000 in
theorem im_X7_init : Cond.instanceMethod mX7_init.1 ∈ lw_good := memg 257 rfl rfl
abbrev mX7_hasLoadAt : MM := (yX7_hasLoadAt, cX7_hasLoadAt, 4, some .boolean)
set_option maxRecDepth 100000 in
theorem ok_X7_hasLoadAt : MOK mX7_hasLoadAt 1 := ⟨memg 802 rfl rfl, memg 81 rfl rfl, ⟨by decide, by decide, by decide +kernel⟩, by decide⟩
set_option maxRecDepth 100000 in
theorem im_X7_hasLoadAt : Cond.instanceMethod mX7_hasLoadAt.1 ∈ lw_good := memg 800 rfl rfl
set_option maxRecDepth 100000 in
theorem se_X7_hasLoadAt : Cond.selects mX7_hasLoadAt.1.cls mX7_hasLoadAt.1 mX7_hasLoadAt.1 ∈ lw_good := memg 801 rfl rfl
abbrev mX7_addLoad : MM := (yX7_addLoad, cX7_addLoad, 3, some .int)
set_option maxRecDepth 100000 in
theorem ok_X7_addLoad : MOK mX7_addLoad 2 := ⟨memg 806 rfl rfl, memg 81 rfl rfl, ⟨by decide, by decide, by decide +kernel⟩, by decide⟩
set_option maxRecDepth 100000 in
theorem im_X7_addLoad : Cond.instanceMethod mX7_addLoad.1 ∈ lw_good := memg 804 rfl rfl
set_option maxRecDepth 100000 in
theorem se_X7_addLoad : Cond.selects mX7_addLoad.1.cls mX7_addLoad.1 mX7_addLoad.1 ∈ lw_good := memg 805 rfl rfl
abbrev mX7_freeTimesLength : MM := (yX7_freeTimesLength, cX7_freeTimesLength, 7, some .long)
set_option maxRecDepth 100000 in
theorem ok_X7_freeTimesLength : MOK mX7_freeTimesLength 1 := ⟨memg 876 rfl rfl, memg 81 rfl rfl, ⟨by decide, by decide, by decide +kernel⟩, by decide⟩
set_option maxRecDepth 100000 in
theorem im_X7_freeTimesLength : Cond.instanceMethod mX7_freeTimesLength.1 ∈ lw_good := memg 874 rfl rfl
set_option maxRecDepth 100000 in
theorem se_X7_freeTimesLength : Cond.selects mX7_freeTimesLength.1.cls mX7_freeTimesLength.1 mX7_freeTimesLength.1 ∈ lw_good := memg 875 rfl rfl
abbrev mX8_init : MM := (yX8_init, cX8_init, 1, none)
set_option maxRecDepth 100000 in
theorem ok_X8_init : MOK mX8_init 0 := ⟨memg 100 rfl rfl, memg 73 rfl rfl, ⟨by decide, by decide, by decide +kernel⟩, by decide⟩
set_option maxRecDepth 100000 in
theorem im_X8_init : Cond.instanceMethod mX8_init.1 ∈ lw_good := memg 99 rfl rfl
abbrev mX8_writeShare : MM := (yX8_writeShare, cX8_writeShare, 2, none)
set_option maxRecDepth 100000 in
theorem ok_X8_writeShare : MOK mX8_writeShare 1 := ⟨memg 616 rfl rfl, memg 73 rfl rfl, ⟨by decide, by decide, by decide +kernel⟩, by decide⟩
set_option maxRecDepth 100000 in
theorem im_X8_writeShare : Cond.instanceMethod mX8_writeShare.1 ∈ lw_good := memg 614 rfl rfl
set_option maxRecDepth 100000 in
theorem se_X8_writeShare : Cond.selects mX8_writeShare.1.cls mX8_writeShare.1 mX8_writeShare.1 ∈ lw_good := memg 615 rfl rfl
abbrev mX8_writeRatio : MM := (yX8_writeRatio, cX8_writeRatio, 3, none)
set_option maxRecDepth 100000 in
theorem ok_X8_writeRatio : MOK mX8_writeRatio 2 := ⟨memg 640 rfl rfl, memg 73 rfl rfl, ⟨by decide, by decide, by decide +kernel⟩, by decide⟩
set_option maxRecDepth 100000 in
theorem im_X8_writeRatio : Cond.instanceMethod mX8_writeRatio.1 ∈ lw_good := memg 638 rfl rfl
set_option maxRecDepth 100000 in
theorem se_X8_writeRatio : Cond.selects mX8_writeRatio.1.cls mX8_writeRatio.1 mX8_writeRatio.1 ∈ lw_good := memg 639 rfl rfl
abbrev mX8_writeWhole : MM := (yX8_writeWhole, cX8_writeWhole, 8, none)
set_option maxRecDepth 100000 in
theorem ok_X8_writeWhole : MOK mX8_writeWhole 1 := ⟨memg 648 rfl rfl, memg 73 rfl rfl, ⟨by decide, by decide, by decide +kernel⟩, by decide⟩
set_option maxRecDepth 100000 in
theorem im_X8_writeWhole : Cond.instanceMethod mX8_writeWhole.1 ∈ lw_good := memg 647 rfl rfl
set_option maxRecDepth 100000 in
theorem se_X8_writeWhole : Cond.selects mX8_writeWhole.1.cls mX8_writeWhole.1 mX8_writeWhole.1 ∈ lw_good := memg 12 rfl rfl
abbrev mX8_write : MM := (yX8_write, cX8_write, 2, none)
set_option maxRecDepth 100000 in
theorem ok_X8_write : MOK mX8_write 1 := ⟨memg 644 rfl rfl, memg 73 rfl rfl, ⟨by decide, by decide, by decide +kernel⟩, by decide⟩
set_option maxRecDepth 100000 in
theorem im_X8_write : Cond.instanceMethod mX8_write.1 ∈ lw_good := memg 643 rfl rfl
set_option maxRecDepth 100000 in
theorem se_X8_write : Cond.selects mX8_write.1.cls mX8_write.1 mX8_write.1 ∈ lw_good := memg 11 rfl rfl
abbrev mX9_init : MM := (yX9_init, cX9_init, 1, none)
set_option maxRecDepth 100000 in
theorem ok_X9_init : MOK mX9_init 0 := ⟨memg 207 rfl rfl, memg 79 rfl rfl, ⟨by decide, by decide, by decide +kernel⟩, by decide⟩
set_option maxRecDepth 100000 in
theorem im_X9_init : Cond.instanceMethod mX9_init.1 ∈ lw_good := memg 206 rfl rfl
abbrev mX9_arm : MM := (yX9_arm, cX9_arm, 7, none)
set_option maxRecDepth 100000 in
theorem ok_X9_arm : MOK mX9_arm 2 := ⟨memg 587 rfl rfl, memg 79 rfl rfl, ⟨by decide, by decide, by decide +kernel⟩, by decide⟩
set_option maxRecDepth 100000 in
theorem im_X9_arm : Cond.instanceMethod mX9_arm.1 ∈ lw_good := memg 585 rfl rfl
set_option maxRecDepth 100000 in
theorem se_X9_arm : Cond.selects mX9_arm.1.cls mX9_arm.1 mX9_arm.1 ∈ lw_good := memg 586 rfl rfl
abbrev mX9_reaches : MM := (yX9_reaches, cX9_reaches, 2, some .boolean)
set_option maxRecDepth 100000 in
theorem ok_X9_reaches : MOK mX9_reaches 1 := ⟨memg 595 rfl rfl, memg 79 rfl rfl, ⟨by decide, by decide, by decide +kernel⟩, by decide⟩
set_option maxRecDepth 100000 in
theorem im_X9_reaches : Cond.instanceMethod mX9_reaches.1 ∈ lw_good := memg 593 rfl rfl
set_option maxRecDepth 100000 in
theorem se_X9_reaches : Cond.selects mX9_reaches.1.cls mX9_reaches.1 mX9_reaches.1 ∈ lw_good := memg 594 rfl rfl
abbrev mX9_bearsOn : MM := (yX9_bearsOn, cX9_bearsOn, 7, some .boolean)
set_option maxRecDepth 100000 in
theorem ok_X9_bearsOn : MOK mX9_bearsOn 4 := ⟨memg 667 rfl rfl, memg 79 rfl rfl, ⟨by decide, by decide, by decide +kernel⟩, by decide⟩
set_option maxRecDepth 100000 in
theorem im_X9_bearsOn : Cond.instanceMethod mX9_bearsOn.1 ∈ lw_good := memg 665 rfl rfl
set_option maxRecDepth 100000 in
theorem se_X9_bearsOn : Cond.selects mX9_bearsOn.1.cls mX9_bearsOn.1 mX9_bearsOn.1 ∈ lw_good := memg 666 rfl rfl
abbrev mX9_fill : MM := (yX9_fill, cX9_fill, 20, none)
set_option maxRecDepth 100000 in
theorem ok_X9_fill : MOK mX9_fill 3 := ⟨memg 599 rfl rfl, memg 79 rfl rfl, ⟨by decide, by decide, by decide +kernel⟩, by decide⟩
set_option maxRecDepth 100000 in
theorem im_X9_fill : Cond.instanceMethod mX9_fill.1 ∈ lw_good := memg 597 rfl rfl
set_option maxRecDepth 100000 in
theorem se_X9_fill : Cond.selects mX9_fill.1.cls mX9_fill.1 mX9_fill.1 ∈ lw_good := memg 598 rfl rfl
abbrev mX10_init : MM := (yX10_init, cX10_init, 1, none)
set_option maxRecDepth 100000 in
theorem ok_X10_init : MOK mX10_init 0 := ⟨memg 112 rfl rfl, memg 75 rfl rfl, ⟨by decide, by decide, by decide +kernel⟩, by decide⟩
set_option maxRecDepth 100000 in
theorem im_X10_init : Cond.instanceMethod mX10_init.1 ∈ lw_good := memg 111 rfl rfl
abbrev mX10_put : MM := (yX10_put, cX10_put, 6, none)
set_option maxRecDepth 100000 in
theorem ok_X10_put : MOK mX10_put 1 := ⟨memg 635 rfl rfl, memg 75 rfl rfl, ⟨by decide, by decide, by decide +kernel⟩, by decide⟩
set_option maxRecDepth 100000 in
theorem im_X10_put : Cond.instanceMethod mX10_put.1 ∈ lw_good := memg 633 rfl rfl
set_option maxRecDepth 100000 in
theorem se_X10_put : Cond.selects mX10_put.1.cls mX10_put.1 mX10_put.1 ∈ lw_good := memg 634 rfl rfl
abbrev mX10_copy : MM := (yX10_copy, cX10_copy, 2, none)
set_option maxRecDepth 100000 in
theorem ok_X10_copy : MOK mX10_copy 1 := ⟨memg 886 rfl rfl, memg 75 rfl rfl, ⟨by decide, by decide, by decide +kernel⟩, by decide⟩
set_option maxRecDepth 100000 in
theorem im_X10_copy : Cond.instanceMethod mX10_copy.1 ∈ lw_good := memg 884 rfl rfl
set_option maxRecDepth 100000 in
theorem se_X10_copy : Cond.selects mX10_copy.1.cls mX10_copy.1 mX10_copy.1 ∈ lw_good := memg 885 rfl rfl
abbrev mX10_plus : MM := (yX10_plus, cX10_plus, 7, none)
set_option maxRecDepth 100000 in
theorem ok_X10_plus : MOK mX10_plus 1 := ⟨memg 864 rfl rfl, memg 75 rfl rfl, ⟨by decide, by decide, by decide +kernel⟩, by decide⟩
set_option maxRecDepth 100000 in
theorem im_X10_plus : Cond.instanceMethod mX10_plus.1 ∈ lw_good := memg 862 rfl rfl
set_option maxRecDepth 100000 in
theorem se_X10_plus : Cond.selects mX10_plus.1.cls mX10_plus.1 mX10_plus.1 ∈ lw_good := memg 863 rfl rfl
abbrev mX10_product : MM := (yX10_product, cX10_product, 9, none)
set_option maxRecDepth 100000 in
theorem ok_X10_product : MOK mX10_product 2 := ⟨memg 857 rfl rfl, memg 75 rfl rfl, ⟨by decide, by decide, by decide +kernel⟩, by decide⟩
set_option maxRecDepth 100000 in
theorem im_X10_product : Cond.instanceMethod mX10_product.1 ∈ lw_good := memg 855 rfl rfl
set_option maxRecDepth 100000 in
theorem se_X10_product : Cond.selects mX10_product.1.cls mX10_product.1 mX10_product.1 ∈ lw_good := memg 856 rfl rfl
abbrev mX10_restBy : MM := (yX10_restBy, cX10_restBy, 6, some .long)
set_option maxRecDepth 100000 in
theorem ok_X10_restBy : MOK mX10_restBy 1 := ⟨memg 868 rfl rfl, memg 75 rfl rfl, ⟨by decide, by decide, by decide +kernel⟩, by decide⟩
set_option maxRecDepth 100000 in
theorem im_X10_restBy : Cond.instanceMethod mX10_restBy.1 ∈ lw_good := memg 866 rfl rfl
set_option maxRecDepth 100000 in
theorem se_X10_restBy : Cond.selects mX10_restBy.1.cls mX10_restBy.1 mX10_restBy.1 ∈ lw_good := memg 867 rfl rfl
abbrev mX10_divide : MM := (yX10_divide, cX10_divide, 8, none)
set_option maxRecDepth 100000 in
theorem ok_X10_divide : MOK mX10_divide 1 := ⟨memg 872 rfl rfl, memg 75 rfl rfl, ⟨by decide, by decide, by decide +kernel⟩, by decide⟩
set_option maxRecDepth 100000 in
theorem im_X10_divide : Cond.instanceMethod mX10_divide.1 ∈ lw_good := memg 870 rfl rfl
set_option maxRecDepth 100000 in
theorem se_X10_divide : Cond.selects mX10_divide.1.cls mX10_divide.1 mX10_divide.1 ∈ lw_good := memg 871 rfl rfl
abbrev mX10_isUnder : MM := (yX10_isUnder, cX10_isUnder, 3, some .boolean)
set_option maxRecDepth 100000 in
theorem ok_X10_isUnder : MOK mX10_isUnder 1 := ⟨memg 909 rfl rfl, memg 75 rfl rfl, ⟨by decide, by decide, by decide +kernel⟩, by decide⟩
set_option maxRecDepth 100000 in
theorem im_X10_isUnder : Cond.instanceMethod mX10_isUnder.1 ∈ lw_good := memg 907 rfl rfl
set_option maxRecDepth 100000 in
theorem se_X10_isUnder : Cond.selects mX10_isUnder.1.cls mX10_isUnder.1 mX10_isUnder.1 ∈ lw_good := memg 908 rfl rfl
abbrev mX11_init : MM := (yX11_init, cX11_init, 2, none)
set_option maxRecDepth 100000 in
theorem ok_X11_init : MOK mX11_init 0 := ⟨memg 92 rfl rfl, memg 72 rfl rfl, ⟨by decide, by decide, by decide +kernel⟩, by decide⟩
set_option maxRecDepth 100000 in
theorem im_X11_init : Cond.instanceMethod mX11_init.1 ∈ lw_good := memg 91 rfl rfl
abbrev mX11_status : MM := (yX11_status, cX11_status, 1, some .int)
set_option maxRecDepth 100000 in
theorem ok_X11_status : MOK mX11_status 0 := ⟨memg 496 rfl rfl, memg 72 rfl rfl, ⟨by decide, by decide, by decide +kernel⟩, by decide⟩
set_option maxRecDepth 100000 in
theorem im_X11_status : Cond.instanceMethod mX11_status.1 ∈ lw_good := memg 494 rfl rfl
set_option maxRecDepth 100000 in
theorem se_X11_status : Cond.selects mX11_status.1.cls mX11_status.1 mX11_status.1 ∈ lw_good := memg 495 rfl rfl
abbrev mX11_out : MM := (yX11_out, cX11_out, 2, some .int)
set_option maxRecDepth 100000 in
theorem ok_X11_out : MOK mX11_out 1 := ⟨memg 500 rfl rfl, memg 72 rfl rfl, ⟨by decide, by decide, by decide +kernel⟩, by decide⟩
set_option maxRecDepth 100000 in
theorem im_X11_out : Cond.instanceMethod mX11_out.1 ∈ lw_good := memg 498 rfl rfl
set_option maxRecDepth 100000 in
theorem se_X11_out : Cond.selects mX11_out.1.cls mX11_out.1 mX11_out.1 ∈ lw_good := memg 499 rfl rfl
abbrev mX11_stone : MM := (yX11_stone, cX11_stone, 4, some .boolean)
set_option maxRecDepth 100000 in
theorem ok_X11_stone : MOK mX11_stone 3 := ⟨memg 504 rfl rfl, memg 72 rfl rfl, ⟨by decide, by decide, by decide +kernel⟩, by decide⟩
set_option maxRecDepth 100000 in
theorem im_X11_stone : Cond.instanceMethod mX11_stone.1 ∈ lw_good := memg 502 rfl rfl
set_option maxRecDepth 100000 in
theorem se_X11_stone : Cond.selects mX11_stone.1.cls mX11_stone.1 mX11_stone.1 ∈ lw_good := memg 503 rfl rfl
abbrev mX11_band : MM := (yX11_band, cX11_band, 6, some .int)
set_option maxRecDepth 100000 in
theorem ok_X11_band : MOK mX11_band 4 := ⟨memg 524 rfl rfl, memg 72 rfl rfl, ⟨by decide, by decide, by decide +kernel⟩, by decide⟩
set_option maxRecDepth 100000 in
theorem im_X11_band : Cond.instanceMethod mX11_band.1 ∈ lw_good := memg 522 rfl rfl
set_option maxRecDepth 100000 in
theorem se_X11_band : Cond.selects mX11_band.1.cls mX11_band.1 mX11_band.1 ∈ lw_good := memg 523 rfl rfl
abbrev mX11_rod : MM := (yX11_rod, cX11_rod, 5, some .int)
set_option maxRecDepth 100000 in
theorem ok_X11_rod : MOK mX11_rod 3 := ⟨memg 540 rfl rfl, memg 72 rfl rfl, ⟨by decide, by decide, by decide +kernel⟩, by decide⟩
set_option maxRecDepth 100000 in
theorem im_X11_rod : Cond.instanceMethod mX11_rod.1 ∈ lw_good := memg 538 rfl rfl
set_option maxRecDepth 100000 in
theorem se_X11_rod : Cond.selects mX11_rod.1.cls mX11_rod.1 mX11_rod.1 ∈ lw_good := memg 539 rfl rfl
abbrev mX11_change : MM := (yX11_change, cX11_change, 4, some .boolean)
set_option maxRecDepth 100000 in
theorem ok_X11_change : MOK mX11_change 3 := ⟨memg 548 rfl rfl, memg 72 rfl rfl, ⟨by decide, by decide, by decide +kernel⟩, by decide⟩
set_option maxRecDepth 100000 in
theorem im_X11_change : Cond.instanceMethod mX11_change.1 ∈ lw_good := memg 546 rfl rfl
set_option maxRecDepth 100000 in
theorem se_X11_change : Cond.selects mX11_change.1.cls mX11_change.1 mX11_change.1 ∈ lw_good := memg 547 rfl rfl
abbrev mX11_told : MM := (yX11_told, cX11_told, 4, some .int)
set_option maxRecDepth 100000 in
theorem ok_X11_told : MOK mX11_told 2 := ⟨memg 556 rfl rfl, memg 72 rfl rfl, ⟨by decide, by decide, by decide +kernel⟩, by decide⟩
set_option maxRecDepth 100000 in
theorem im_X11_told : Cond.instanceMethod mX11_told.1 ∈ lw_good := memg 554 rfl rfl
set_option maxRecDepth 100000 in
theorem se_X11_told : Cond.selects mX11_told.1.cls mX11_told.1 mX11_told.1 ∈ lw_good := memg 555 rfl rfl
abbrev mX11_strength : MM := (yX11_strength, cX11_strength, 3, some .int)
set_option maxRecDepth 100000 in
theorem ok_X11_strength : MOK mX11_strength 2 := ⟨memg 565 rfl rfl, memg 72 rfl rfl, ⟨by decide, by decide, by decide +kernel⟩, by decide⟩
set_option maxRecDepth 100000 in
theorem im_X11_strength : Cond.instanceMethod mX11_strength.1 ∈ lw_good := memg 563 rfl rfl
set_option maxRecDepth 100000 in
theorem se_X11_strength : Cond.selects mX11_strength.1.cls mX11_strength.1 mX11_strength.1 ∈ lw_good := memg 564 rfl rfl
abbrev mX11_width : MM := (yX11_width, cX11_width, 3, some .int)
set_option maxRecDepth 100000 in
theorem ok_X11_width : MOK mX11_width 2 := ⟨memg 569 rfl rfl, memg 72 rfl rfl, ⟨by decide, by decide, by decide +kernel⟩, by decide⟩
set_option maxRecDepth 100000 in
theorem im_X11_width : Cond.instanceMethod mX11_width.1 ∈ lw_good := memg 567 rfl rfl
set_option maxRecDepth 100000 in
theorem se_X11_width : Cond.selects mX11_width.1.cls mX11_width.1 mX11_width.1 ∈ lw_good := memg 568 rfl rfl
abbrev mX11_bend : MM := (yX11_bend, cX11_bend, 5, some .int)
set_option maxRecDepth 100000 in
theorem ok_X11_bend : MOK mX11_bend 3 := ⟨memg 574 rfl rfl, memg 72 rfl rfl, ⟨by decide, by decide, by decide +kernel⟩, by decide⟩
set_option maxRecDepth 100000 in
theorem im_X11_bend : Cond.instanceMethod mX11_bend.1 ∈ lw_good := memg 572 rfl rfl
set_option maxRecDepth 100000 in
theorem se_X11_bend : Cond.selects mX11_bend.1.cls mX11_bend.1 mX11_bend.1 ∈ lw_good := memg 573 rfl rfl
abbrev mX11_cut : MM := (yX11_cut, cX11_cut, 5, some .int)
set_option maxRecDepth 100000 in
theorem ok_X11_cut : MOK mX11_cut 3 := ⟨memg 655 rfl rfl, memg 72 rfl rfl, ⟨by decide, by decide, by decide +kernel⟩, by decide⟩
set_option maxRecDepth 100000 in
theorem im_X11_cut : Cond.instanceMethod mX11_cut.1 ∈ lw_good := memg 653 rfl rfl
set_option maxRecDepth 100000 in
theorem se_X11_cut : Cond.selects mX11_cut.1.cls mX11_cut.1 mX11_cut.1 ∈ lw_good := memg 654 rfl rfl
abbrev mX11_borne : MM := (yX11_borne, cX11_borne, 4, some .int)
set_option maxRecDepth 100000 in
theorem ok_X11_borne : MOK mX11_borne 3 := ⟨memg 659 rfl rfl, memg 72 rfl rfl, ⟨by decide, by decide, by decide +kernel⟩, by decide⟩
set_option maxRecDepth 100000 in
theorem im_X11_borne : Cond.instanceMethod mX11_borne.1 ∈ lw_good := memg 657 rfl rfl
set_option maxRecDepth 100000 in
theorem se_X11_borne : Cond.selects mX11_borne.1.cls mX11_borne.1 mX11_borne.1 ∈ lw_good := memg 658 rfl rfl
abbrev mX11_pair : MM := (yX11_pair, cX11_pair, 3, some .int)
set_option maxRecDepth 100000 in
theorem ok_X11_pair : MOK mX11_pair 2 := ⟨memg 673 rfl rfl, memg 72 rfl rfl, ⟨by decide, by decide, by decide +kernel⟩, by decide⟩
set_option maxRecDepth 100000 in
theorem im_X11_pair : Cond.instanceMethod mX11_pair.1 ∈ lw_good := memg 671 rfl rfl
set_option maxRecDepth 100000 in
theorem se_X11_pair : Cond.selects mX11_pair.1.cls mX11_pair.1 mX11_pair.1 ∈ lw_good := memg 672 rfl rfl
abbrev mX11_clear : MM := (yX11_clear, cX11_clear, 1, some .boolean)
set_option maxRecDepth 100000 in
theorem ok_X11_clear : MOK mX11_clear 0 := ⟨memg 685 rfl rfl, memg 72 rfl rfl, ⟨by decide, by decide, by decide +kernel⟩, by decide⟩
set_option maxRecDepth 100000 in
theorem im_X11_clear : Cond.instanceMethod mX11_clear.1 ∈ lw_good := memg 683 rfl rfl
set_option maxRecDepth 100000 in
theorem se_X11_clear : Cond.selects mX11_clear.1.cls mX11_clear.1 mX11_clear.1 ∈ lw_good := memg 684 rfl rfl
abbrev mX11_safe : MM := (yX11_safe, cX11_safe, 3, some .int)
set_option maxRecDepth 100000 in
theorem ok_X11_safe : MOK mX11_safe 1 := ⟨memg 689 rfl rfl, memg 72 rfl rfl, ⟨by decide, by decide, by decide +kernel⟩, by decide⟩
set_option maxRecDepth 100000 in
theorem im_X11_safe : Cond.instanceMethod mX11_safe.1 ∈ lw_good := memg 687 rfl rfl
set_option maxRecDepth 100000 in
theorem se_X11_safe : Cond.selects mX11_safe.1.cls mX11_safe.1 mX11_safe.1 ∈ lw_good := memg 688 rfl rfl
abbrev mX11_size : MM := (yX11_size, cX11_size, 3, some .int)
set_option maxRecDepth 100000 in
theorem ok_X11_size : MOK mX11_size 2 := ⟨memg 693 rfl rfl, memg 72 rfl rfl, ⟨by decide, by decide, by decide +kernel⟩, by decide⟩
set_option maxRecDepth 100000 in
theorem im_X11_size : Cond.instanceMethod mX11_size.1 ∈ lw_good := memg 691 rfl rfl
set_option maxRecDepth 100000 in
theorem se_X11_size : Cond.selects mX11_size.1.cls mX11_size.1 mX11_size.1 ∈ lw_good := memg 692 rfl rfl
abbrev mX11_best : MM := (yX11_best, cX11_best, 3, some .int)
set_option maxRecDepth 100000 in
theorem ok_X11_best : MOK mX11_best 1 := ⟨memg 701 rfl rfl, memg 72 rfl rfl, ⟨by decide, by decide, by decide +kernel⟩, by decide⟩
set_option maxRecDepth 100000 in
theorem im_X11_best : Cond.instanceMethod mX11_best.1 ∈ lw_good := memg 699 rfl rfl
set_option maxRecDepth 100000 in
theorem se_X11_best : Cond.selects mX11_best.1.cls mX11_best.1 mX11_best.1 ∈ lw_good := memg 700 rfl rfl
abbrev mX11_chosen : MM := (yX11_chosen, cX11_chosen, 4, some .int)
set_option maxRecDepth 100000 in
theorem ok_X11_chosen : MOK mX11_chosen 2 := ⟨memg 765 rfl rfl, memg 72 rfl rfl, ⟨by decide, by decide, by decide +kernel⟩, by decide⟩
set_option maxRecDepth 100000 in
theorem im_X11_chosen : Cond.instanceMethod mX11_chosen.1 ∈ lw_good := memg 763 rfl rfl
set_option maxRecDepth 100000 in
theorem se_X11_chosen : Cond.selects mX11_chosen.1.cls mX11_chosen.1 mX11_chosen.1 ∈ lw_good := memg 764 rfl rfl
abbrev mX11_take : MM := (yX11_take, cX11_take, 3, some .int)
set_option maxRecDepth 100000 in
theorem ok_X11_take : MOK mX11_take 1 := ⟨memg 769 rfl rfl, memg 72 rfl rfl, ⟨by decide, by decide, by decide +kernel⟩, by decide⟩
set_option maxRecDepth 100000 in
theorem im_X11_take : Cond.instanceMethod mX11_take.1 ∈ lw_good := memg 767 rfl rfl
set_option maxRecDepth 100000 in
theorem se_X11_take : Cond.selects mX11_take.1.cls mX11_take.1 mX11_take.1 ∈ lw_good := memg 768 rfl rfl
abbrev mX11_span : MM := (yX11_span, cX11_span, 3, some .int)
set_option maxRecDepth 100000 in
theorem ok_X11_span : MOK mX11_span 2 := ⟨memg 778 rfl rfl, memg 72 rfl rfl, ⟨by decide, by decide, by decide +kernel⟩, by decide⟩
set_option maxRecDepth 100000 in
theorem im_X11_span : Cond.instanceMethod mX11_span.1 ∈ lw_good := memg 776 rfl rfl
set_option maxRecDepth 100000 in
theorem se_X11_span : Cond.selects mX11_span.1.cls mX11_span.1 mX11_span.1 ∈ lw_good := memg 777 rfl rfl
abbrev mX11_away : MM := (yX11_away, cX11_away, 1, some .boolean)
set_option maxRecDepth 100000 in
theorem ok_X11_away : MOK mX11_away 0 := ⟨memg 786 rfl rfl, memg 72 rfl rfl, ⟨by decide, by decide, by decide +kernel⟩, by decide⟩
set_option maxRecDepth 100000 in
theorem im_X11_away : Cond.instanceMethod mX11_away.1 ∈ lw_good := memg 784 rfl rfl
set_option maxRecDepth 100000 in
theorem se_X11_away : Cond.selects mX11_away.1.cls mX11_away.1 mX11_away.1 ∈ lw_good := memg 785 rfl rfl
abbrev mX11_hold : MM := (yX11_hold, cX11_hold, 3, some .boolean)
set_option maxRecDepth 100000 in
theorem ok_X11_hold : MOK mX11_hold 2 := ⟨memg 790 rfl rfl, memg 72 rfl rfl, ⟨by decide, by decide, by decide +kernel⟩, by decide⟩
set_option maxRecDepth 100000 in
theorem im_X11_hold : Cond.instanceMethod mX11_hold.1 ∈ lw_good := memg 788 rfl rfl
set_option maxRecDepth 100000 in
theorem se_X11_hold : Cond.selects mX11_hold.1.cls mX11_hold.1 mX11_hold.1 ∈ lw_good := memg 789 rfl rfl
abbrev mX11_load : MM := (yX11_load, cX11_load, 5, some .int)
set_option maxRecDepth 100000 in
theorem ok_X11_load : MOK mX11_load 3 := ⟨memg 794 rfl rfl, memg 72 rfl rfl, ⟨by decide, by decide, by decide +kernel⟩, by decide⟩
set_option maxRecDepth 100000 in
theorem im_X11_load : Cond.instanceMethod mX11_load.1 ∈ lw_good := memg 792 rfl rfl
set_option maxRecDepth 100000 in
theorem se_X11_load : Cond.selects mX11_load.1.cls mX11_load.1 mX11_load.1 ∈ lw_good := memg 793 rfl rfl
abbrev mX11_times : MM := (yX11_times, cX11_times, 3, some .int)
set_option maxRecDepth 100000 in
theorem ok_X11_times : MOK mX11_times 2 := ⟨memg 810 rfl rfl, memg 72 rfl rfl, ⟨by decide, by decide, by decide +kernel⟩, by decide⟩
set_option maxRecDepth 100000 in
theorem im_X11_times : Cond.instanceMethod mX11_times.1 ∈ lw_good := memg 808 rfl rfl
set_option maxRecDepth 100000 in
theorem se_X11_times : Cond.selects mX11_times.1.cls mX11_times.1 mX11_times.1 ∈ lw_good := memg 809 rfl rfl
abbrev mX11_factor : MM := (yX11_factor, cX11_factor, 1, some .int)
set_option maxRecDepth 100000 in
theorem ok_X11_factor : MOK mX11_factor 0 := ⟨memg 896 rfl rfl, memg 72 rfl rfl, ⟨by decide, by decide, by decide +kernel⟩, by decide⟩
set_option maxRecDepth 100000 in
theorem im_X11_factor : Cond.instanceMethod mX11_factor.1 ∈ lw_good := memg 894 rfl rfl
set_option maxRecDepth 100000 in
theorem se_X11_factor : Cond.selects mX11_factor.1.cls mX11_factor.1 mX11_factor.1 ∈ lw_good := memg 895 rfl rfl
abbrev mX11_weakest : MM := (yX11_weakest, cX11_weakest, 1, some .int)
set_option maxRecDepth 100000 in
theorem ok_X11_weakest : MOK mX11_weakest 0 := ⟨memg 917 rfl rfl, memg 72 rfl rfl, ⟨by decide, by decide, by decide +kernel⟩, by decide⟩
set_option maxRecDepth 100000 in
theorem im_X11_weakest : Cond.instanceMethod mX11_weakest.1 ∈ lw_good := memg 915 rfl rfl
set_option maxRecDepth 100000 in
theorem se_X11_weakest : Cond.selects mX11_weakest.1.cls mX11_weakest.1 mX11_weakest.1 ∈ lw_good := memg 916 rfl rfl
abbrev mX11_refuse : MM := (yX11_refuse, cX11_refuse, 2, some .int)
set_option maxRecDepth 100000 in
theorem ok_X11_refuse : MOK mX11_refuse 1 := ⟨memg 528 rfl rfl, memg 72 rfl rfl, ⟨by decide, by decide, by decide +kernel⟩, by decide⟩
set_option maxRecDepth 100000 in
theorem im_X11_refuse : Cond.instanceMethod mX11_refuse.1 ∈ lw_good := memg 527 rfl rfl
set_option maxRecDepth 100000 in
theorem se_X11_refuse : Cond.selects mX11_refuse.1.cls mX11_refuse.1 mX11_refuse.1 ∈ lw_good := memg 6 rfl rfl
abbrev mX11_deny : MM := (yX11_deny, cX11_deny, 2, some .boolean)
set_option maxRecDepth 100000 in
theorem ok_X11_deny : MOK mX11_deny 1 := ⟨memg 515 rfl rfl, memg 72 rfl rfl, ⟨by decide, by decide, by decide +kernel⟩, by decide⟩
set_option maxRecDepth 100000 in
theorem im_X11_deny : Cond.instanceMethod mX11_deny.1 ∈ lw_good := memg 514 rfl rfl
set_option maxRecDepth 100000 in
theorem se_X11_deny : Cond.selects mX11_deny.1.cls mX11_deny.1 mX11_deny.1 ∈ lw_good := memg 4 rfl rfl
abbrev mX11_give : MM := (yX11_give, cX11_give, 2, some .int)
set_option maxRecDepth 100000 in
theorem ok_X11_give : MOK mX11_give 1 := ⟨memg 536 rfl rfl, memg 72 rfl rfl, ⟨by decide, by decide, by decide +kernel⟩, by decide⟩
set_option maxRecDepth 100000 in
theorem im_X11_give : Cond.instanceMethod mX11_give.1 ∈ lw_good := memg 535 rfl rfl
set_option maxRecDepth 100000 in
theorem se_X11_give : Cond.selects mX11_give.1.cls mX11_give.1 mX11_give.1 ∈ lw_good := memg 7 rfl rfl
abbrev mX11_allow : MM := (yX11_allow, cX11_allow, 1, some .boolean)
set_option maxRecDepth 100000 in
theorem ok_X11_allow : MOK mX11_allow 0 := ⟨memg 520 rfl rfl, memg 72 rfl rfl, ⟨by decide, by decide, by decide +kernel⟩, by decide⟩
set_option maxRecDepth 100000 in
theorem im_X11_allow : Cond.instanceMethod mX11_allow.1 ∈ lw_good := memg 519 rfl rfl
set_option maxRecDepth 100000 in
theorem se_X11_allow : Cond.selects mX11_allow.1.cls mX11_allow.1 mX11_allow.1 ∈ lw_good := memg 5 rfl rfl
abbrev mX11_giveShare : MM := (yX11_giveShare, cX11_giveShare, 2, some .int)
set_option maxRecDepth 100000 in
theorem ok_X11_giveShare : MOK mX11_giveShare 1 := ⟨memg 612 rfl rfl, memg 72 rfl rfl, ⟨by decide, by decide, by decide +kernel⟩, by decide⟩
set_option maxRecDepth 100000 in
theorem im_X11_giveShare : Cond.instanceMethod mX11_giveShare.1 ∈ lw_good := memg 611 rfl rfl
set_option maxRecDepth 100000 in
theorem se_X11_giveShare : Cond.selects mX11_giveShare.1.cls mX11_giveShare.1 mX11_giveShare.1 ∈ lw_good := memg 10 rfl rfl
abbrev mX11_giveRatio : MM := (yX11_giveRatio, cX11_giveRatio, 2, some .int)
set_option maxRecDepth 100000 in
theorem ok_X11_giveRatio : MOK mX11_giveRatio 1 := ⟨memg 891 rfl rfl, memg 72 rfl rfl, ⟨by decide, by decide, by decide +kernel⟩, by decide⟩
set_option maxRecDepth 100000 in
theorem im_X11_giveRatio : Cond.instanceMethod mX11_giveRatio.1 ∈ lw_good := memg 890 rfl rfl
set_option maxRecDepth 100000 in
theorem se_X11_giveRatio : Cond.selects mX11_giveRatio.1.cls mX11_giveRatio.1 mX11_giveRatio.1 ∈ lw_good := memg 27 rfl rfl
abbrev mX11_isSection : MM := (yX11_isSection, cX11_isSection, 2, some .boolean)
set_option maxRecDepth 100000 in
theorem ok_X11_isSection : MOK mX11_isSection 1 := ⟨memg 508 rfl rfl, memg 72 rfl rfl, ⟨by decide, by decide, by decide +kernel⟩, by decide⟩
set_option maxRecDepth 100000 in
theorem im_X11_isSection : Cond.instanceMethod mX11_isSection.1 ∈ lw_good := memg 507 rfl rfl
set_option maxRecDepth 100000 in
theorem se_X11_isSection : Cond.selects mX11_isSection.1.cls mX11_isSection.1 mX11_isSection.1 ∈ lw_good := memg 3 rfl rfl
abbrev mX11_isRod : MM := (yX11_isRod, cX11_isRod, 3, some .boolean)
set_option maxRecDepth 100000 in
theorem ok_X11_isRod : MOK mX11_isRod 2 := ⟨memg 552 rfl rfl, memg 72 rfl rfl, ⟨by decide, by decide, by decide +kernel⟩, by decide⟩
set_option maxRecDepth 100000 in
theorem im_X11_isRod : Cond.instanceMethod mX11_isRod.1 ∈ lw_good := memg 551 rfl rfl
set_option maxRecDepth 100000 in
theorem se_X11_isRod : Cond.selects mX11_isRod.1.cls mX11_isRod.1 mX11_isRod.1 ∈ lw_good := memg 8 rfl rfl
abbrev mX11_isSpan : MM := (yX11_isSpan, cX11_isSpan, 2, some .boolean)
set_option maxRecDepth 100000 in
theorem ok_X11_isSpan : MOK mX11_isSpan 1 := ⟨memg 798 rfl rfl, memg 72 rfl rfl, ⟨by decide, by decide, by decide +kernel⟩, by decide⟩
set_option maxRecDepth 100000 in
theorem im_X11_isSpan : Cond.instanceMethod mX11_isSpan.1 ∈ lw_good := memg 797 rfl rfl
set_option maxRecDepth 100000 in
theorem se_X11_isSpan : Cond.selects mX11_isSpan.1.cls mX11_isSpan.1 mX11_isSpan.1 ∈ lw_good := memg 23 rfl rfl
abbrev mX11_isFromTo : MM := (yX11_isFromTo, cX11_isFromTo, 3, some .boolean)
set_option maxRecDepth 100000 in
theorem ok_X11_isFromTo : MOK mX11_isFromTo 3 := ⟨memg 511 rfl rfl, memg 72 rfl rfl, ⟨by decide, by decide, by decide +kernel⟩, by decide⟩
set_option maxRecDepth 100000 in
theorem sm_X11_isFromTo : Cond.static mX11_isFromTo.1 ∈ lw_good := memg 510 rfl rfl
abbrev mX11_isNear : MM := (yX11_isNear, cX11_isNear, 1, some .boolean)
set_option maxRecDepth 100000 in
theorem ok_X11_isNear : MOK mX11_isNear 1 := ⟨memg 581 rfl rfl, memg 72 rfl rfl, ⟨by decide, by decide, by decide +kernel⟩, by decide⟩
set_option maxRecDepth 100000 in
theorem sm_X11_isNear : Cond.static mX11_isNear.1 ∈ lw_good := memg 580 rfl rfl
abbrev mX11_walkTo : MM := (yX11_walkTo, cX11_walkTo, 5, some .int)
set_option maxRecDepth 100000 in
theorem ok_X11_walkTo : MOK mX11_walkTo 3 := ⟨memg 578 rfl rfl, memg 72 rfl rfl, ⟨by decide, by decide, by decide +kernel⟩, by decide⟩
set_option maxRecDepth 100000 in
theorem im_X11_walkTo : Cond.instanceMethod mX11_walkTo.1 ∈ lw_good := memg 577 rfl rfl
set_option maxRecDepth 100000 in
theorem se_X11_walkTo : Cond.selects mX11_walkTo.1.cls mX11_walkTo.1 mX11_walkTo.1 ∈ lw_good := memg 9 rfl rfl
abbrev mX11_bears : MM := (yX11_bears, cX11_bears, 4, some .boolean)
set_option maxRecDepth 100000 in
theorem ok_X11_bears : MOK mX11_bears 3 := ⟨memg 663 rfl rfl, memg 72 rfl rfl, ⟨by decide, by decide, by decide +kernel⟩, by decide⟩
set_option maxRecDepth 100000 in
theorem im_X11_bears : Cond.instanceMethod mX11_bears.1 ∈ lw_good := memg 662 rfl rfl
set_option maxRecDepth 100000 in
theorem se_X11_bears : Cond.selects mX11_bears.1.cls mX11_bears.1 mX11_bears.1 ∈ lw_good := memg 13 rfl rfl
abbrev mX11_forgetBests : MM := (yX11_forgetBests, cX11_forgetBests, 2, none)
set_option maxRecDepth 100000 in
theorem ok_X11_forgetBests : MOK mX11_forgetBests 0 := ⟨memg 677 rfl rfl, memg 72 rfl rfl, ⟨by decide, by decide, by decide +kernel⟩, by decide⟩
set_option maxRecDepth 100000 in
theorem im_X11_forgetBests : Cond.instanceMethod mX11_forgetBests.1 ∈ lw_good := memg 676 rfl rfl
set_option maxRecDepth 100000 in
theorem se_X11_forgetBests : Cond.selects mX11_forgetBests.1.cls mX11_forgetBests.1 mX11_forgetBests.1 ∈ lw_good := memg 14 rfl rfl
abbrev mX11_carryOut : MM := (yX11_carryOut, cX11_carryOut, 5, some .int)
set_option maxRecDepth 100000 in
theorem ok_X11_carryOut : MOK mX11_carryOut 1 := ⟨memg 773 rfl rfl, memg 72 rfl rfl, ⟨by decide, by decide, by decide +kernel⟩, by decide⟩
set_option maxRecDepth 100000 in
theorem im_X11_carryOut : Cond.instanceMethod mX11_carryOut.1 ∈ lw_good := memg 772 rfl rfl
set_option maxRecDepth 100000 in
theorem se_X11_carryOut : Cond.selects mX11_carryOut.1.cls mX11_carryOut.1 mX11_carryOut.1 ∈ lw_good := memg 22 rfl rfl
abbrev mX11_commonDivisor : MM := (yX11_commonDivisor, cX11_commonDivisor, 11, some .long)
set_option maxRecDepth 100000 in
theorem ok_X11_commonDivisor : MOK mX11_commonDivisor 2 := ⟨memg 623 rfl rfl, memg 72 rfl rfl, ⟨by decide, by decide, by decide +kernel⟩, by decide⟩
set_option maxRecDepth 100000 in
theorem sm_X11_commonDivisor : Cond.static mX11_commonDivisor.1 ∈ lw_good := memg 622 rfl rfl
abbrev mX12_init : MM := (yX12_init, cX12_init, 1, none)
set_option maxRecDepth 100000 in
theorem ok_X12_init : MOK mX12_init 0 := ⟨memg 922 rfl rfl, memg 84 rfl rfl, ⟨by decide, by decide, by decide +kernel⟩, by decide⟩
set_option maxRecDepth 100000 in
theorem im_X12_init : Cond.instanceMethod mX12_init.1 ∈ lw_good := memg 921 rfl rfl
abbrev mX12_status : MM := (yX12_status, cX12_status, 1, some .int)
set_option maxRecDepth 100000 in
theorem ok_X12_status : MOK mX12_status 0 := ⟨memg 1081 rfl rfl, memg 84 rfl rfl, ⟨by decide, by decide, by decide +kernel⟩, by decide⟩
set_option maxRecDepth 100000 in
theorem im_X12_status : Cond.instanceMethod mX12_status.1 ∈ lw_good := memg 1079 rfl rfl
set_option maxRecDepth 100000 in
theorem se_X12_status : Cond.selects mX12_status.1.cls mX12_status.1 mX12_status.1 ∈ lw_good := memg 1080 rfl rfl
abbrev mX12_is : MM := (yX12_is, cX12_is, 2, some .boolean)
set_option maxRecDepth 100000 in
theorem ok_X12_is : MOK mX12_is 1 := ⟨memg 1096 rfl rfl, memg 84 rfl rfl, ⟨by decide, by decide, by decide +kernel⟩, by decide⟩
set_option maxRecDepth 100000 in
theorem im_X12_is : Cond.instanceMethod mX12_is.1 ∈ lw_good := memg 1095 rfl rfl
set_option maxRecDepth 100000 in
theorem se_X12_is : Cond.selects mX12_is.1.cls mX12_is.1 mX12_is.1 ∈ lw_good := memg 28 rfl rfl
abbrev mX12_refuse : MM := (yX12_refuse, cX12_refuse, 2, some .int)
set_option maxRecDepth 100000 in
theorem ok_X12_refuse : MOK mX12_refuse 1 := ⟨memg 1104 rfl rfl, memg 84 rfl rfl, ⟨by decide, by decide, by decide +kernel⟩, by decide⟩
set_option maxRecDepth 100000 in
theorem im_X12_refuse : Cond.instanceMethod mX12_refuse.1 ∈ lw_good := memg 1103 rfl rfl
set_option maxRecDepth 100000 in
theorem se_X12_refuse : Cond.selects mX12_refuse.1.cls mX12_refuse.1 mX12_refuse.1 ∈ lw_good := memg 29 rfl rfl
abbrev mX12_places : MM := (yX12_places, cX12_places, 2, some .int)
set_option maxRecDepth 100000 in
theorem ok_X12_places : MOK mX12_places 1 := ⟨memg 1195 rfl rfl, memg 84 rfl rfl, ⟨by decide, by decide, by decide +kernel⟩, by decide⟩
set_option maxRecDepth 100000 in
theorem im_X12_places : Cond.instanceMethod mX12_places.1 ∈ lw_good := memg 1194 rfl rfl
set_option maxRecDepth 100000 in
theorem se_X12_places : Cond.selects mX12_places.1.cls mX12_places.1 mX12_places.1 ∈ lw_good := memg 44 rfl rfl
abbrev mX12_sign : MM := (yX12_sign, cX12_sign, 2, some .int)
set_option maxRecDepth 100000 in
theorem ok_X12_sign : MOK mX12_sign 1 := ⟨memg 1227 rfl rfl, memg 84 rfl rfl, ⟨by decide, by decide, by decide +kernel⟩, by decide⟩
set_option maxRecDepth 100000 in
theorem im_X12_sign : Cond.instanceMethod mX12_sign.1 ∈ lw_good := memg 1226 rfl rfl
set_option maxRecDepth 100000 in
theorem se_X12_sign : Cond.selects mX12_sign.1.cls mX12_sign.1 mX12_sign.1 ∈ lw_good := memg 51 rfl rfl
abbrev mX12_room : MM := (yX12_room, cX12_room, 3, some .int)
set_option maxRecDepth 100000 in
theorem ok_X12_room : MOK mX12_room 1 := ⟨memg 1178 rfl rfl, memg 84 rfl rfl, ⟨by decide, by decide, by decide +kernel⟩, by decide⟩
set_option maxRecDepth 100000 in
theorem im_X12_room : Cond.instanceMethod mX12_room.1 ∈ lw_good := memg 1177 rfl rfl
set_option maxRecDepth 100000 in
theorem se_X12_room : Cond.selects mX12_room.1.cls mX12_room.1 mX12_room.1 ∈ lw_good := memg 40 rfl rfl
abbrev mX12_done : MM := (yX12_done, cX12_done, 5, some .int)
set_option maxRecDepth 100000 in
theorem ok_X12_done : MOK mX12_done 3 := ⟨memg 1183 rfl rfl, memg 84 rfl rfl, ⟨by decide, by decide, by decide +kernel⟩, by decide⟩
set_option maxRecDepth 100000 in
theorem im_X12_done : Cond.instanceMethod mX12_done.1 ∈ lw_good := memg 1182 rfl rfl
set_option maxRecDepth 100000 in
theorem se_X12_done : Cond.selects mX12_done.1.cls mX12_done.1 mX12_done.1 ∈ lw_good := memg 41 rfl rfl
abbrev mX12_whole : MM := (yX12_whole, cX12_whole, 6, some .int)
set_option maxRecDepth 100000 in
theorem ok_X12_whole : MOK mX12_whole 1 := ⟨memg 1174 rfl rfl, memg 84 rfl rfl, ⟨by decide, by decide, by decide +kernel⟩, by decide⟩
set_option maxRecDepth 100000 in
theorem im_X12_whole : Cond.instanceMethod mX12_whole.1 ∈ lw_good := memg 1173 rfl rfl
set_option maxRecDepth 100000 in
theorem se_X12_whole : Cond.selects mX12_whole.1.cls mX12_whole.1 mX12_whole.1 ∈ lw_good := memg 39 rfl rfl
abbrev mX12_copy : MM := (yX12_copy, cX12_copy, 5, some .int)
set_option maxRecDepth 100000 in
theorem ok_X12_copy : MOK mX12_copy 1 := ⟨memg 1235 rfl rfl, memg 84 rfl rfl, ⟨by decide, by decide, by decide +kernel⟩, by decide⟩
set_option maxRecDepth 100000 in
theorem im_X12_copy : Cond.instanceMethod mX12_copy.1 ∈ lw_good := memg 1234 rfl rfl
set_option maxRecDepth 100000 in
theorem se_X12_copy : Cond.selects mX12_copy.1.cls mX12_copy.1 mX12_copy.1 ∈ lw_good := memg 53 rfl rfl
abbrev mX12_turned : MM := (yX12_turned, cX12_turned, 3, some .int)
set_option maxRecDepth 100000 in
theorem ok_X12_turned : MOK mX12_turned 1 := ⟨memg 1231 rfl rfl, memg 84 rfl rfl, ⟨by decide, by decide, by decide +kernel⟩, by decide⟩
set_option maxRecDepth 100000 in
theorem im_X12_turned : Cond.instanceMethod mX12_turned.1 ∈ lw_good := memg 1230 rfl rfl
set_option maxRecDepth 100000 in
theorem se_X12_turned : Cond.selects mX12_turned.1.cls mX12_turned.1 mX12_turned.1 ∈ lw_good := memg 52 rfl rfl
abbrev mX12_compareSizes : MM := (yX12_compareSizes, cX12_compareSizes, 5, some .int)
set_option maxRecDepth 100000 in
theorem ok_X12_compareSizes : MOK mX12_compareSizes 2 := ⟨memg 1208 rfl rfl, memg 84 rfl rfl, ⟨by decide, by decide, by decide +kernel⟩, by decide⟩
set_option maxRecDepth 100000 in
theorem im_X12_compareSizes : Cond.instanceMethod mX12_compareSizes.1 ∈ lw_good := memg 1207 rfl rfl
set_option maxRecDepth 100000 in
theorem se_X12_compareSizes : Cond.selects mX12_compareSizes.1.cls mX12_compareSizes.1 mX12_compareSizes.1 ∈ lw_good := memg 47 rfl rfl
abbrev mX12_sum : MM := (yX12_sum, cX12_sum, 11, some .int)
set_option maxRecDepth 100000 in
theorem ok_X12_sum : MOK mX12_sum 2 := ⟨memg 1348 rfl rfl, memg 84 rfl rfl, ⟨by decide, by decide, by decide +kernel⟩, by decide⟩
set_option maxRecDepth 100000 in
theorem im_X12_sum : Cond.instanceMethod mX12_sum.1 ∈ lw_good := memg 1347 rfl rfl
set_option maxRecDepth 100000 in
theorem se_X12_sum : Cond.selects mX12_sum.1.cls mX12_sum.1 mX12_sum.1 ∈ lw_good := memg 67 rfl rfl
abbrev mX12_less : MM := (yX12_less, cX12_less, 3, some .int)
set_option maxRecDepth 100000 in
theorem ok_X12_less : MOK mX12_less 2 := ⟨memg 1344 rfl rfl, memg 84 rfl rfl, ⟨by decide, by decide, by decide +kernel⟩, by decide⟩
set_option maxRecDepth 100000 in
theorem im_X12_less : Cond.instanceMethod mX12_less.1 ∈ lw_good := memg 1343 rfl rfl
set_option maxRecDepth 100000 in
theorem se_X12_less : Cond.selects mX12_less.1.cls mX12_less.1 mX12_less.1 ∈ lw_good := memg 66 rfl rfl
abbrev mX12_product : MM := (yX12_product, cX12_product, 12, some .int)
set_option maxRecDepth 100000 in
theorem ok_X12_product : MOK mX12_product 2 := ⟨memg 1340 rfl rfl, memg 84 rfl rfl, ⟨by decide, by decide, by decide +kernel⟩, by decide⟩
set_option maxRecDepth 100000 in
theorem im_X12_product : Cond.instanceMethod mX12_product.1 ∈ lw_good := memg 1339 rfl rfl
set_option maxRecDepth 100000 in
theorem se_X12_product : Cond.selects mX12_product.1.cls mX12_product.1 mX12_product.1 ∈ lw_good := memg 65 rfl rfl
abbrev mX12_divide : MM := (yX12_divide, cX12_divide, 7, none)
set_option maxRecDepth 100000 in
theorem ok_X12_divide : MOK mX12_divide 2 := ⟨memg 1204 rfl rfl, memg 84 rfl rfl, ⟨by decide, by decide, by decide +kernel⟩, by decide⟩
set_option maxRecDepth 100000 in
theorem im_X12_divide : Cond.instanceMethod mX12_divide.1 ∈ lw_good := memg 1203 rfl rfl
set_option maxRecDepth 100000 in
theorem se_X12_divide : Cond.selects mX12_divide.1.cls mX12_divide.1 mX12_divide.1 ∈ lw_good := memg 46 rfl rfl
abbrev mX12_divideShort : MM := (yX12_divideShort, cX12_divideShort, 7, none)
set_option maxRecDepth 100000 in
theorem ok_X12_divideShort : MOK mX12_divideShort 1 := ⟨memg 1212 rfl rfl, memg 84 rfl rfl, ⟨by decide, by decide, by decide +kernel⟩, by decide⟩
set_option maxRecDepth 100000 in
theorem im_X12_divideShort : Cond.instanceMethod mX12_divideShort.1 ∈ lw_good := memg 1211 rfl rfl
set_option maxRecDepth 100000 in
theorem se_X12_divideShort : Cond.selects mX12_divideShort.1.cls mX12_divideShort.1 mX12_divideShort.1 ∈ lw_good := memg 48 rfl rfl
abbrev mX12_step : MM := (yX12_step, cX12_step, 16, some .int)
set_option maxRecDepth 100000 in
theorem ok_X12_step : MOK mX12_step 2 := ⟨memg 1218 rfl rfl, memg 84 rfl rfl, ⟨by decide, by decide, by decide +kernel⟩, by decide⟩
set_option maxRecDepth 100000 in
theorem im_X12_step : Cond.instanceMethod mX12_step.1 ∈ lw_good := memg 1217 rfl rfl
set_option maxRecDepth 100000 in
theorem se_X12_step : Cond.selects mX12_step.1.cls mX12_step.1 mX12_step.1 ∈ lw_good := memg 49 rfl rfl
abbrev mX12_divided : MM := (yX12_divided, cX12_divided, 5, some .int)
set_option maxRecDepth 100000 in
theorem ok_X12_divided : MOK mX12_divided 2 := ⟨memg 1223 rfl rfl, memg 84 rfl rfl, ⟨by decide, by decide, by decide +kernel⟩, by decide⟩
set_option maxRecDepth 100000 in
theorem im_X12_divided : Cond.instanceMethod mX12_divided.1 ∈ lw_good := memg 1222 rfl rfl
set_option maxRecDepth 100000 in
theorem se_X12_divided : Cond.selects mX12_divided.1.cls mX12_divided.1 mX12_divided.1 ∈ lw_good := memg 50 rfl rfl
abbrev mX12_common : MM := (yX12_common, cX12_common, 10, some .int)
set_option maxRecDepth 100000 in
theorem ok_X12_common : MOK mX12_common 2 := ⟨memg 1191 rfl rfl, memg 84 rfl rfl, ⟨by decide, by decide, by decide +kernel⟩, by decide⟩
set_option maxRecDepth 100000 in
theorem im_X12_common : Cond.instanceMethod mX12_common.1 ∈ lw_good := memg 1190 rfl rfl
set_option maxRecDepth 100000 in
theorem se_X12_common : Cond.selects mX12_common.1.cls mX12_common.1 mX12_common.1 ∈ lw_good := memg 43 rfl rfl
abbrev mX12_put : MM := (yX12_put, cX12_put, 5, none)
set_option maxRecDepth 100000 in
theorem ok_X12_put : MOK mX12_put 2 := ⟨memg 1200 rfl rfl, memg 84 rfl rfl, ⟨by decide, by decide, by decide +kernel⟩, by decide⟩
set_option maxRecDepth 100000 in
theorem im_X12_put : Cond.instanceMethod mX12_put.1 ∈ lw_good := memg 1199 rfl rfl
set_option maxRecDepth 100000 in
theorem se_X12_put : Cond.selects mX12_put.1.cls mX12_put.1 mX12_put.1 ∈ lw_good := memg 45 rfl rfl
abbrev mX12_out : MM := (yX12_out, cX12_out, 2, some .int)
set_option maxRecDepth 100000 in
theorem ok_X12_out : MOK mX12_out 1 := ⟨memg 1085 rfl rfl, memg 84 rfl rfl, ⟨by decide, by decide, by decide +kernel⟩, by decide⟩
set_option maxRecDepth 100000 in
theorem im_X12_out : Cond.instanceMethod mX12_out.1 ∈ lw_good := memg 1083 rfl rfl
set_option maxRecDepth 100000 in
theorem se_X12_out : Cond.selects mX12_out.1.cls mX12_out.1 mX12_out.1 ∈ lw_good := memg 1084 rfl rfl
abbrev mX12_tells0 : MM := (yX12_tells0, cX12_tells0, 2, none)
set_option maxRecDepth 100000 in
theorem ok_X12_tells0 : MOK mX12_tells0 1 := ⟨memg 1243 rfl rfl, memg 84 rfl rfl, ⟨by decide, by decide, by decide +kernel⟩, by decide⟩
set_option maxRecDepth 100000 in
theorem im_X12_tells0 : Cond.instanceMethod mX12_tells0.1 ∈ lw_good := memg 1242 rfl rfl
set_option maxRecDepth 100000 in
theorem se_X12_tells0 : Cond.selects mX12_tells0.1.cls mX12_tells0.1 mX12_tells0.1 ∈ lw_good := memg 55 rfl rfl
abbrev mX12_tellsNumber : MM := (yX12_tellsNumber, cX12_tellsNumber, 8, none)
set_option maxRecDepth 100000 in
theorem ok_X12_tellsNumber : MOK mX12_tellsNumber 1 := ⟨memg 1239 rfl rfl, memg 84 rfl rfl, ⟨by decide, by decide, by decide +kernel⟩, by decide⟩
set_option maxRecDepth 100000 in
theorem im_X12_tellsNumber : Cond.instanceMethod mX12_tellsNumber.1 ∈ lw_good := memg 1238 rfl rfl
set_option maxRecDepth 100000 in
theorem se_X12_tellsNumber : Cond.selects mX12_tellsNumber.1.cls mX12_tellsNumber.1 mX12_tellsNumber.1 ∈ lw_good := memg 54 rfl rfl
abbrev mX12_tells : MM := (yX12_tells, cX12_tells, 6, some .int)
set_option maxRecDepth 100000 in
theorem ok_X12_tells : MOK mX12_tells 2 := ⟨memg 1187 rfl rfl, memg 84 rfl rfl, ⟨by decide, by decide, by decide +kernel⟩, by decide⟩
set_option maxRecDepth 100000 in
theorem im_X12_tells : Cond.instanceMethod mX12_tells.1 ∈ lw_good := memg 1186 rfl rfl
set_option maxRecDepth 100000 in
theorem se_X12_tells : Cond.selects mX12_tells.1.cls mX12_tells.1 mX12_tells.1 ∈ lw_good := memg 42 rfl rfl
abbrev mX12_isSection : MM := (yX12_isSection, cX12_isSection, 1, some .boolean)
set_option maxRecDepth 100000 in
theorem ok_X12_isSection : MOK mX12_isSection 1 := ⟨memg 1092 rfl rfl, memg 84 rfl rfl, ⟨by decide, by decide, by decide +kernel⟩, by decide⟩
set_option maxRecDepth 100000 in
theorem sm_X12_isSection : Cond.static mX12_isSection.1 ∈ lw_good := memg 1091 rfl rfl
abbrev mX12_stone : MM := (yX12_stone, cX12_stone, 5, some .boolean)
set_option maxRecDepth 100000 in
theorem ok_X12_stone : MOK mX12_stone 3 := ⟨memg 1089 rfl rfl, memg 84 rfl rfl, ⟨by decide, by decide, by decide +kernel⟩, by decide⟩
set_option maxRecDepth 100000 in
theorem im_X12_stone : Cond.instanceMethod mX12_stone.1 ∈ lw_good := memg 1087 rfl rfl
set_option maxRecDepth 100000 in
theorem se_X12_stone : Cond.selects mX12_stone.1.cls mX12_stone.1 mX12_stone.1 ∈ lw_good := memg 1088 rfl rfl
abbrev mX12_band : MM := (yX12_band, cX12_band, 6, some .int)
set_option maxRecDepth 100000 in
theorem ok_X12_band : MOK mX12_band 4 := ⟨memg 1100 rfl rfl, memg 84 rfl rfl, ⟨by decide, by decide, by decide +kernel⟩, by decide⟩
set_option maxRecDepth 100000 in
theorem im_X12_band : Cond.instanceMethod mX12_band.1 ∈ lw_good := memg 1098 rfl rfl
set_option maxRecDepth 100000 in
theorem se_X12_band : Cond.selects mX12_band.1.cls mX12_band.1 mX12_band.1 ∈ lw_good := memg 1099 rfl rfl
abbrev mX12_rod : MM := (yX12_rod, cX12_rod, 4, some .int)
set_option maxRecDepth 100000 in
theorem ok_X12_rod : MOK mX12_rod 3 := ⟨memg 1108 rfl rfl, memg 84 rfl rfl, ⟨by decide, by decide, by decide +kernel⟩, by decide⟩
set_option maxRecDepth 100000 in
theorem im_X12_rod : Cond.instanceMethod mX12_rod.1 ∈ lw_good := memg 1106 rfl rfl
set_option maxRecDepth 100000 in
theorem se_X12_rod : Cond.selects mX12_rod.1.cls mX12_rod.1 mX12_rod.1 ∈ lw_good := memg 1107 rfl rfl
abbrev mX12_isRod : MM := (yX12_isRod, cX12_isRod, 3, some .boolean)
set_option maxRecDepth 100000 in
theorem ok_X12_isRod : MOK mX12_isRod 2 := ⟨memg 1116 rfl rfl, memg 84 rfl rfl, ⟨by decide, by decide, by decide +kernel⟩, by decide⟩
set_option maxRecDepth 100000 in
theorem im_X12_isRod : Cond.instanceMethod mX12_isRod.1 ∈ lw_good := memg 1115 rfl rfl
set_option maxRecDepth 100000 in
theorem se_X12_isRod : Cond.selects mX12_isRod.1.cls mX12_isRod.1 mX12_isRod.1 ∈ lw_good := memg 30 rfl rfl
abbrev mX12_change : MM := (yX12_change, cX12_change, 4, some .boolean)
set_option maxRecDepth 100000 in
theorem ok_X12_change : MOK mX12_change 3 := ⟨memg 1112 rfl rfl, memg 84 rfl rfl, ⟨by decide, by decide, by decide +kernel⟩, by decide⟩
set_option maxRecDepth 100000 in
theorem im_X12_change : Cond.instanceMethod mX12_change.1 ∈ lw_good := memg 1110 rfl rfl
set_option maxRecDepth 100000 in
theorem se_X12_change : Cond.selects mX12_change.1.cls mX12_change.1 mX12_change.1 ∈ lw_good := memg 1111 rfl rfl
abbrev mX12_asTold : MM := (yX12_asTold, cX12_asTold, 3, none)
set_option maxRecDepth 100000 in
theorem ok_X12_asTold : MOK mX12_asTold 1 := ⟨memg 1124 rfl rfl, memg 84 rfl rfl, ⟨by decide, by decide, by decide +kernel⟩, by decide⟩
set_option maxRecDepth 100000 in
theorem im_X12_asTold : Cond.instanceMethod mX12_asTold.1 ∈ lw_good := memg 1123 rfl rfl
set_option maxRecDepth 100000 in
theorem se_X12_asTold : Cond.selects mX12_asTold.1.cls mX12_asTold.1 mX12_asTold.1 ∈ lw_good := memg 31 rfl rfl
abbrev mX12_pulls : MM := (yX12_pulls, cX12_pulls, 3, some .int)
set_option maxRecDepth 100000 in
theorem ok_X12_pulls : MOK mX12_pulls 0 := ⟨memg 1132 rfl rfl, memg 84 rfl rfl, ⟨by decide, by decide, by decide +kernel⟩, by decide⟩
set_option maxRecDepth 100000 in
theorem im_X12_pulls : Cond.instanceMethod mX12_pulls.1 ∈ lw_good := memg 1131 rfl rfl
set_option maxRecDepth 100000 in
theorem se_X12_pulls : Cond.selects mX12_pulls.1.cls mX12_pulls.1 mX12_pulls.1 ∈ lw_good := memg 33 rfl rfl
abbrev mX12_greatest : MM := (yX12_greatest, cX12_greatest, 2, some .int)
set_option maxRecDepth 100000 in
theorem ok_X12_greatest : MOK mX12_greatest 1 := ⟨memg 1128 rfl rfl, memg 84 rfl rfl, ⟨by decide, by decide, by decide +kernel⟩, by decide⟩
set_option maxRecDepth 100000 in
theorem im_X12_greatest : Cond.instanceMethod mX12_greatest.1 ∈ lw_good := memg 1127 rfl rfl
set_option maxRecDepth 100000 in
theorem se_X12_greatest : Cond.selects mX12_greatest.1.cls mX12_greatest.1 mX12_greatest.1 ∈ lw_good := memg 32 rfl rfl
abbrev mX12_told : MM := (yX12_told, cX12_told, 3, some .int)
set_option maxRecDepth 100000 in
theorem ok_X12_told : MOK mX12_told 2 := ⟨memg 1120 rfl rfl, memg 84 rfl rfl, ⟨by decide, by decide, by decide +kernel⟩, by decide⟩
set_option maxRecDepth 100000 in
theorem im_X12_told : Cond.instanceMethod mX12_told.1 ∈ lw_good := memg 1118 rfl rfl
set_option maxRecDepth 100000 in
theorem se_X12_told : Cond.selects mX12_told.1.cls mX12_told.1 mX12_told.1 ∈ lw_good := memg 1119 rfl rfl
abbrev mX12_strength : MM := (yX12_strength, cX12_strength, 3, some .int)
set_option maxRecDepth 100000 in
theorem ok_X12_strength : MOK mX12_strength 2 := ⟨memg 1136 rfl rfl, memg 84 rfl rfl, ⟨by decide, by decide, by decide +kernel⟩, by decide⟩
set_option maxRecDepth 100000 in
theorem im_X12_strength : Cond.instanceMethod mX12_strength.1 ∈ lw_good := memg 1134 rfl rfl
set_option maxRecDepth 100000 in
theorem se_X12_strength : Cond.selects mX12_strength.1.cls mX12_strength.1 mX12_strength.1 ∈ lw_good := memg 1135 rfl rfl
abbrev mX12_width : MM := (yX12_width, cX12_width, 3, some .int)
set_option maxRecDepth 100000 in
theorem ok_X12_width : MOK mX12_width 2 := ⟨memg 1140 rfl rfl, memg 84 rfl rfl, ⟨by decide, by decide, by decide +kernel⟩, by decide⟩
set_option maxRecDepth 100000 in
theorem im_X12_width : Cond.instanceMethod mX12_width.1 ∈ lw_good := memg 1138 rfl rfl
set_option maxRecDepth 100000 in
theorem se_X12_width : Cond.selects mX12_width.1.cls mX12_width.1 mX12_width.1 ∈ lw_good := memg 1139 rfl rfl
abbrev mX12_at : MM := (yX12_at, cX12_at, 6, some .long)
set_option maxRecDepth 100000 in
theorem ok_X12_at : MOK mX12_at 2 := ⟨memg 1166 rfl rfl, memg 84 rfl rfl, ⟨by decide, by decide, by decide +kernel⟩, by decide⟩
set_option maxRecDepth 100000 in
theorem im_X12_at : Cond.instanceMethod mX12_at.1 ∈ lw_good := memg 1165 rfl rfl
set_option maxRecDepth 100000 in
theorem se_X12_at : Cond.selects mX12_at.1.cls mX12_at.1 mX12_at.1 ∈ lw_good := memg 37 rfl rfl
abbrev mX12_go : MM := (yX12_go, cX12_go, 20, none)
set_option maxRecDepth 100000 in
theorem ok_X12_go : MOK mX12_go 3 := ⟨memg 1161 rfl rfl, memg 84 rfl rfl, ⟨by decide, by decide, by decide +kernel⟩, by decide⟩
set_option maxRecDepth 100000 in
theorem im_X12_go : Cond.instanceMethod mX12_go.1 ∈ lw_good := memg 1160 rfl rfl
set_option maxRecDepth 100000 in
theorem se_X12_go : Cond.selects mX12_go.1.cls mX12_go.1 mX12_go.1 ∈ lw_good := memg 36 rfl rfl
abbrev mX12_found : MM := (yX12_found, cX12_found, 9, none)
set_option maxRecDepth 100000 in
theorem ok_X12_found : MOK mX12_found 4 := ⟨memg 1170 rfl rfl, memg 84 rfl rfl, ⟨by decide, by decide, by decide +kernel⟩, by decide⟩
set_option maxRecDepth 100000 in
theorem im_X12_found : Cond.instanceMethod mX12_found.1 ∈ lw_good := memg 1169 rfl rfl
set_option maxRecDepth 100000 in
theorem se_X12_found : Cond.selects mX12_found.1.cls mX12_found.1 mX12_found.1 ∈ lw_good := memg 38 rfl rfl
abbrev mX12_isPush : MM := (yX12_isPush, cX12_isPush, 3, some .boolean)
set_option maxRecDepth 100000 in
theorem ok_X12_isPush : MOK mX12_isPush 2 := ⟨memg 1157 rfl rfl, memg 84 rfl rfl, ⟨by decide, by decide, by decide +kernel⟩, by decide⟩
set_option maxRecDepth 100000 in
theorem im_X12_isPush : Cond.instanceMethod mX12_isPush.1 ∈ lw_good := memg 1156 rfl rfl
set_option maxRecDepth 100000 in
theorem se_X12_isPush : Cond.selects mX12_isPush.1.cls mX12_isPush.1 mX12_isPush.1 ∈ lw_good := memg 35 rfl rfl
abbrev mX12_isNumber : MM := (yX12_isNumber, cX12_isNumber, 1, some .boolean)
set_option maxRecDepth 100000 in
theorem ok_X12_isNumber : MOK mX12_isNumber 1 := ⟨memg 1151 rfl rfl, memg 84 rfl rfl, ⟨by decide, by decide, by decide +kernel⟩, by decide⟩
set_option maxRecDepth 100000 in
theorem sm_X12_isNumber : Cond.static mX12_isNumber.1 ∈ lw_good := memg 1150 rfl rfl
abbrev mX12_wrong : MM := (yX12_wrong, cX12_wrong, 3, some .int)
set_option maxRecDepth 100000 in
theorem ok_X12_wrong : MOK mX12_wrong 2 := ⟨memg 1148 rfl rfl, memg 84 rfl rfl, ⟨by decide, by decide, by decide +kernel⟩, by decide⟩
set_option maxRecDepth 100000 in
theorem im_X12_wrong : Cond.instanceMethod mX12_wrong.1 ∈ lw_good := memg 1147 rfl rfl
set_option maxRecDepth 100000 in
theorem se_X12_wrong : Cond.selects mX12_wrong.1.cls mX12_wrong.1 mX12_wrong.1 ∈ lw_good := memg 34 rfl rfl
abbrev mX12_bend : MM := (yX12_bend, cX12_bend, 5, some .int)
set_option maxRecDepth 100000 in
theorem ok_X12_bend : MOK mX12_bend 3 := ⟨memg 1144 rfl rfl, memg 84 rfl rfl, ⟨by decide, by decide, by decide +kernel⟩, by decide⟩
set_option maxRecDepth 100000 in
theorem im_X12_bend : Cond.instanceMethod mX12_bend.1 ∈ lw_good := memg 1142 rfl rfl
set_option maxRecDepth 100000 in
theorem se_X12_bend : Cond.selects mX12_bend.1.cls mX12_bend.1 mX12_bend.1 ∈ lw_good := memg 1143 rfl rfl
abbrev mX12_cut : MM := (yX12_cut, cX12_cut, 5, some .int)
set_option maxRecDepth 100000 in
theorem ok_X12_cut : MOK mX12_cut 3 := ⟨memg 1248 rfl rfl, memg 84 rfl rfl, ⟨by decide, by decide, by decide +kernel⟩, by decide⟩
set_option maxRecDepth 100000 in
theorem im_X12_cut : Cond.instanceMethod mX12_cut.1 ∈ lw_good := memg 1246 rfl rfl
set_option maxRecDepth 100000 in
theorem se_X12_cut : Cond.selects mX12_cut.1.cls mX12_cut.1 mX12_cut.1 ∈ lw_good := memg 1247 rfl rfl
abbrev mX12_bears : MM := (yX12_bears, cX12_bears, 4, some .boolean)
set_option maxRecDepth 100000 in
theorem ok_X12_bears : MOK mX12_bears 3 := ⟨memg 1256 rfl rfl, memg 84 rfl rfl, ⟨by decide, by decide, by decide +kernel⟩, by decide⟩
set_option maxRecDepth 100000 in
theorem im_X12_bears : Cond.instanceMethod mX12_bears.1 ∈ lw_good := memg 1255 rfl rfl
set_option maxRecDepth 100000 in
theorem se_X12_bears : Cond.selects mX12_bears.1.cls mX12_bears.1 mX12_bears.1 ∈ lw_good := memg 56 rfl rfl
abbrev mX12_borne : MM := (yX12_borne, cX12_borne, 4, some .int)
set_option maxRecDepth 100000 in
theorem ok_X12_borne : MOK mX12_borne 3 := ⟨memg 1252 rfl rfl, memg 84 rfl rfl, ⟨by decide, by decide, by decide +kernel⟩, by decide⟩
set_option maxRecDepth 100000 in
theorem im_X12_borne : Cond.instanceMethod mX12_borne.1 ∈ lw_good := memg 1250 rfl rfl
set_option maxRecDepth 100000 in
theorem se_X12_borne : Cond.selects mX12_borne.1.cls mX12_borne.1 mX12_borne.1 ∈ lw_good := memg 1251 rfl rfl
abbrev mX12_pair : MM := (yX12_pair, cX12_pair, 3, some .int)
set_option maxRecDepth 100000 in
theorem ok_X12_pair : MOK mX12_pair 2 := ⟨memg 1260 rfl rfl, memg 84 rfl rfl, ⟨by decide, by decide, by decide +kernel⟩, by decide⟩
set_option maxRecDepth 100000 in
theorem im_X12_pair : Cond.instanceMethod mX12_pair.1 ∈ lw_good := memg 1258 rfl rfl
set_option maxRecDepth 100000 in
theorem se_X12_pair : Cond.selects mX12_pair.1.cls mX12_pair.1 mX12_pair.1 ∈ lw_good := memg 1259 rfl rfl
abbrev mX12_clear : MM := (yX12_clear, cX12_clear, 1, some .boolean)
set_option maxRecDepth 100000 in
theorem ok_X12_clear : MOK mX12_clear 0 := ⟨memg 1264 rfl rfl, memg 84 rfl rfl, ⟨by decide, by decide, by decide +kernel⟩, by decide⟩
set_option maxRecDepth 100000 in
theorem im_X12_clear : Cond.instanceMethod mX12_clear.1 ∈ lw_good := memg 1262 rfl rfl
set_option maxRecDepth 100000 in
theorem se_X12_clear : Cond.selects mX12_clear.1.cls mX12_clear.1 mX12_clear.1 ∈ lw_good := memg 1263 rfl rfl
abbrev mX12_fails : MM := (yX12_fails, cX12_fails, 3, some .int)
set_option maxRecDepth 100000 in
theorem ok_X12_fails : MOK mX12_fails 1 := ⟨memg 1272 rfl rfl, memg 84 rfl rfl, ⟨by decide, by decide, by decide +kernel⟩, by decide⟩
set_option maxRecDepth 100000 in
theorem im_X12_fails : Cond.instanceMethod mX12_fails.1 ∈ lw_good := memg 1271 rfl rfl
set_option maxRecDepth 100000 in
theorem se_X12_fails : Cond.selects mX12_fails.1.cls mX12_fails.1 mX12_fails.1 ∈ lw_good := memg 57 rfl rfl
abbrev mX12_safe : MM := (yX12_safe, cX12_safe, 2, some .int)
set_option maxRecDepth 100000 in
theorem ok_X12_safe : MOK mX12_safe 1 := ⟨memg 1268 rfl rfl, memg 84 rfl rfl, ⟨by decide, by decide, by decide +kernel⟩, by decide⟩
set_option maxRecDepth 100000 in
theorem im_X12_safe : Cond.instanceMethod mX12_safe.1 ∈ lw_good := memg 1266 rfl rfl
set_option maxRecDepth 100000 in
theorem se_X12_safe : Cond.selects mX12_safe.1.cls mX12_safe.1 mX12_safe.1 ∈ lw_good := memg 1267 rfl rfl
abbrev mX12_size : MM := (yX12_size, cX12_size, 3, some .int)
set_option maxRecDepth 100000 in
theorem ok_X12_size : MOK mX12_size 2 := ⟨memg 1276 rfl rfl, memg 84 rfl rfl, ⟨by decide, by decide, by decide +kernel⟩, by decide⟩
set_option maxRecDepth 100000 in
theorem im_X12_size : Cond.instanceMethod mX12_size.1 ∈ lw_good := memg 1274 rfl rfl
set_option maxRecDepth 100000 in
theorem se_X12_size : Cond.selects mX12_size.1.cls mX12_size.1 mX12_size.1 ∈ lw_good := memg 1275 rfl rfl
abbrev mX12_choose : MM := (yX12_choose, cX12_choose, 9, some .boolean)
set_option maxRecDepth 100000 in
theorem ok_X12_choose : MOK mX12_choose 1 := ⟨memg 1284 rfl rfl, memg 84 rfl rfl, ⟨by decide, by decide, by decide +kernel⟩, by decide⟩
set_option maxRecDepth 100000 in
theorem im_X12_choose : Cond.instanceMethod mX12_choose.1 ∈ lw_good := memg 1283 rfl rfl
set_option maxRecDepth 100000 in
theorem se_X12_choose : Cond.selects mX12_choose.1.cls mX12_choose.1 mX12_choose.1 ∈ lw_good := memg 58 rfl rfl
abbrev mX12_best : MM := (yX12_best, cX12_best, 2, some .int)
set_option maxRecDepth 100000 in
theorem ok_X12_best : MOK mX12_best 1 := ⟨memg 1280 rfl rfl, memg 84 rfl rfl, ⟨by decide, by decide, by decide +kernel⟩, by decide⟩
set_option maxRecDepth 100000 in
theorem im_X12_best : Cond.instanceMethod mX12_best.1 ∈ lw_good := memg 1278 rfl rfl
set_option maxRecDepth 100000 in
theorem se_X12_best : Cond.selects mX12_best.1.cls mX12_best.1 mX12_best.1 ∈ lw_good := memg 1279 rfl rfl
abbrev mX12_chosen : MM := (yX12_chosen, cX12_chosen, 3, some .int)
set_option maxRecDepth 100000 in
theorem ok_X12_chosen : MOK mX12_chosen 2 := ⟨memg 1288 rfl rfl, memg 84 rfl rfl, ⟨by decide, by decide, by decide +kernel⟩, by decide⟩
set_option maxRecDepth 100000 in
theorem im_X12_chosen : Cond.instanceMethod mX12_chosen.1 ∈ lw_good := memg 1286 rfl rfl
set_option maxRecDepth 100000 in
theorem se_X12_chosen : Cond.selects mX12_chosen.1.cls mX12_chosen.1 mX12_chosen.1 ∈ lw_good := memg 1287 rfl rfl
abbrev mX12_take : MM := (yX12_take, cX12_take, 5, some .int)
set_option maxRecDepth 100000 in
theorem ok_X12_take : MOK mX12_take 1 := ⟨memg 1292 rfl rfl, memg 84 rfl rfl, ⟨by decide, by decide, by decide +kernel⟩, by decide⟩
set_option maxRecDepth 100000 in
theorem im_X12_take : Cond.instanceMethod mX12_take.1 ∈ lw_good := memg 1290 rfl rfl
set_option maxRecDepth 100000 in
theorem se_X12_take : Cond.selects mX12_take.1.cls mX12_take.1 mX12_take.1 ∈ lw_good := memg 1291 rfl rfl
abbrev mX12_span : MM := (yX12_span, cX12_span, 3, some .int)
set_option maxRecDepth 100000 in
theorem ok_X12_span : MOK mX12_span 2 := ⟨memg 1296 rfl rfl, memg 84 rfl rfl, ⟨by decide, by decide, by decide +kernel⟩, by decide⟩
set_option maxRecDepth 100000 in
theorem im_X12_span : Cond.instanceMethod mX12_span.1 ∈ lw_good := memg 1294 rfl rfl
set_option maxRecDepth 100000 in
theorem se_X12_span : Cond.selects mX12_span.1.cls mX12_span.1 mX12_span.1 ∈ lw_good := memg 1295 rfl rfl
abbrev mX12_away : MM := (yX12_away, cX12_away, 1, some .boolean)
set_option maxRecDepth 100000 in
theorem ok_X12_away : MOK mX12_away 0 := ⟨memg 1300 rfl rfl, memg 84 rfl rfl, ⟨by decide, by decide, by decide +kernel⟩, by decide⟩
set_option maxRecDepth 100000 in
theorem im_X12_away : Cond.instanceMethod mX12_away.1 ∈ lw_good := memg 1298 rfl rfl
set_option maxRecDepth 100000 in
theorem se_X12_away : Cond.selects mX12_away.1.cls mX12_away.1 mX12_away.1 ∈ lw_good := memg 1299 rfl rfl
abbrev mX12_hold : MM := (yX12_hold, cX12_hold, 3, some .boolean)
set_option maxRecDepth 100000 in
theorem ok_X12_hold : MOK mX12_hold 2 := ⟨memg 1304 rfl rfl, memg 84 rfl rfl, ⟨by decide, by decide, by decide +kernel⟩, by decide⟩
set_option maxRecDepth 100000 in
theorem im_X12_hold : Cond.instanceMethod mX12_hold.1 ∈ lw_good := memg 1302 rfl rfl
set_option maxRecDepth 100000 in
theorem se_X12_hold : Cond.selects mX12_hold.1.cls mX12_hold.1 mX12_hold.1 ∈ lw_good := memg 1303 rfl rfl
abbrev mX12_isSpan : MM := (yX12_isSpan, cX12_isSpan, 2, some .boolean)
set_option maxRecDepth 100000 in
theorem ok_X12_isSpan : MOK mX12_isSpan 1 := ⟨memg 1312 rfl rfl, memg 84 rfl rfl, ⟨by decide, by decide, by decide +kernel⟩, by decide⟩
set_option maxRecDepth 100000 in
theorem im_X12_isSpan : Cond.instanceMethod mX12_isSpan.1 ∈ lw_good := memg 1311 rfl rfl
set_option maxRecDepth 100000 in
theorem se_X12_isSpan : Cond.selects mX12_isSpan.1.cls mX12_isSpan.1 mX12_isSpan.1 ∈ lw_good := memg 59 rfl rfl
abbrev mX12_load : MM := (yX12_load, cX12_load, 5, some .int)
set_option maxRecDepth 100000 in
theorem ok_X12_load : MOK mX12_load 3 := ⟨memg 1308 rfl rfl, memg 84 rfl rfl, ⟨by decide, by decide, by decide +kernel⟩, by decide⟩
set_option maxRecDepth 100000 in
theorem im_X12_load : Cond.instanceMethod mX12_load.1 ∈ lw_good := memg 1306 rfl rfl
set_option maxRecDepth 100000 in
theorem se_X12_load : Cond.selects mX12_load.1.cls mX12_load.1 mX12_load.1 ∈ lw_good := memg 1307 rfl rfl
abbrev mX12_strengthOf : MM := (yX12_strengthOf, cX12_strengthOf, 4, none)
set_option maxRecDepth 100000 in
theorem ok_X12_strengthOf : MOK mX12_strengthOf 2 := ⟨memg 1328 rfl rfl, memg 84 rfl rfl, ⟨by decide, by decide, by decide +kernel⟩, by decide⟩
set_option maxRecDepth 100000 in
theorem im_X12_strengthOf : Cond.instanceMethod mX12_strengthOf.1 ∈ lw_good := memg 1327 rfl rfl
set_option maxRecDepth 100000 in
theorem se_X12_strengthOf : Cond.selects mX12_strengthOf.1.cls mX12_strengthOf.1 mX12_strengthOf.1 ∈ lw_good := memg 62 rfl rfl
abbrev mX12_hogOf : MM := (yX12_hogOf, cX12_hogOf, 8, none)
set_option maxRecDepth 100000 in
theorem ok_X12_hogOf : MOK mX12_hogOf 1 := ⟨memg 1332 rfl rfl, memg 84 rfl rfl, ⟨by decide, by decide, by decide +kernel⟩, by decide⟩
set_option maxRecDepth 100000 in
theorem im_X12_hogOf : Cond.instanceMethod mX12_hogOf.1 ∈ lw_good := memg 1331 rfl rfl
set_option maxRecDepth 100000 in
theorem se_X12_hogOf : Cond.selects mX12_hogOf.1.cls mX12_hogOf.1 mX12_hogOf.1 ∈ lw_good := memg 63 rfl rfl
abbrev mX12_less3 : MM := (yX12_less3, cX12_less3, 9, some .boolean)
set_option maxRecDepth 100000 in
theorem ok_X12_less3 : MOK mX12_less3 4 := ⟨memg 1336 rfl rfl, memg 84 rfl rfl, ⟨by decide, by decide, by decide +kernel⟩, by decide⟩
set_option maxRecDepth 100000 in
theorem im_X12_less3 : Cond.instanceMethod mX12_less3.1 ∈ lw_good := memg 1335 rfl rfl
set_option maxRecDepth 100000 in
theorem se_X12_less3 : Cond.selects mX12_less3.1.cls mX12_less3.1 mX12_less3.1 ∈ lw_good := memg 64 rfl rfl
abbrev mX12_gather : MM := (yX12_gather, cX12_gather, 7, none)
set_option maxRecDepth 100000 in
theorem ok_X12_gather : MOK mX12_gather 2 := ⟨memg 1324 rfl rfl, memg 84 rfl rfl, ⟨by decide, by decide, by decide +kernel⟩, by decide⟩
set_option maxRecDepth 100000 in
theorem im_X12_gather : Cond.instanceMethod mX12_gather.1 ∈ lw_good := memg 1323 rfl rfl
set_option maxRecDepth 100000 in
theorem se_X12_gather : Cond.selects mX12_gather.1.cls mX12_gather.1 mX12_gather.1 ∈ lw_good := memg 61 rfl rfl
abbrev mX12_timesOf : MM := (yX12_timesOf, cX12_timesOf, 9, none)
set_option maxRecDepth 100000 in
theorem ok_X12_timesOf : MOK mX12_timesOf 2 := ⟨memg 1320 rfl rfl, memg 84 rfl rfl, ⟨by decide, by decide, by decide +kernel⟩, by decide⟩
set_option maxRecDepth 100000 in
theorem im_X12_timesOf : Cond.instanceMethod mX12_timesOf.1 ∈ lw_good := memg 1319 rfl rfl
set_option maxRecDepth 100000 in
theorem se_X12_timesOf : Cond.selects mX12_timesOf.1.cls mX12_timesOf.1 mX12_timesOf.1 ∈ lw_good := memg 60 rfl rfl
abbrev mX12_times : MM := (yX12_times, cX12_times, 3, some .int)
set_option maxRecDepth 100000 in
theorem ok_X12_times : MOK mX12_times 2 := ⟨memg 1316 rfl rfl, memg 84 rfl rfl, ⟨by decide, by decide, by decide +kernel⟩, by decide⟩
set_option maxRecDepth 100000 in
theorem im_X12_times : Cond.instanceMethod mX12_times.1 ∈ lw_good := memg 1314 rfl rfl
set_option maxRecDepth 100000 in
theorem se_X12_times : Cond.selects mX12_times.1.cls mX12_times.1 mX12_times.1 ∈ lw_good := memg 1315 rfl rfl
abbrev mX12_keep : MM := (yX12_keep, cX12_keep, 4, none)
set_option maxRecDepth 100000 in
theorem ok_X12_keep : MOK mX12_keep 2 := ⟨memg 1364 rfl rfl, memg 84 rfl rfl, ⟨by decide, by decide, by decide +kernel⟩, by decide⟩
set_option maxRecDepth 100000 in
theorem im_X12_keep : Cond.instanceMethod mX12_keep.1 ∈ lw_good := memg 1363 rfl rfl
set_option maxRecDepth 100000 in
theorem se_X12_keep : Cond.selects mX12_keep.1.cls mX12_keep.1 mX12_keep.1 ∈ lw_good := memg 70 rfl rfl
abbrev mX12_held : MM := (yX12_held, cX12_held, 5, some .int)
set_option maxRecDepth 100000 in
theorem ok_X12_held : MOK mX12_held 1 := ⟨memg 1360 rfl rfl, memg 84 rfl rfl, ⟨by decide, by decide, by decide +kernel⟩, by decide⟩
set_option maxRecDepth 100000 in
theorem im_X12_held : Cond.instanceMethod mX12_held.1 ∈ lw_good := memg 1359 rfl rfl
set_option maxRecDepth 100000 in
theorem se_X12_held : Cond.selects mX12_held.1.cls mX12_held.1 mX12_held.1 ∈ lw_good := memg 69 rfl rfl
abbrev mX12_finds : MM := (yX12_finds, cX12_finds, 3, some .boolean)
set_option maxRecDepth 100000 in
theorem ok_X12_finds : MOK mX12_finds 0 := ⟨memg 1356 rfl rfl, memg 84 rfl rfl, ⟨by decide, by decide, by decide +kernel⟩, by decide⟩
set_option maxRecDepth 100000 in
theorem im_X12_finds : Cond.instanceMethod mX12_finds.1 ∈ lw_good := memg 1355 rfl rfl
set_option maxRecDepth 100000 in
theorem se_X12_finds : Cond.selects mX12_finds.1.cls mX12_finds.1 mX12_finds.1 ∈ lw_good := memg 68 rfl rfl
abbrev mX12_factor : MM := (yX12_factor, cX12_factor, 1, some .int)
set_option maxRecDepth 100000 in
theorem ok_X12_factor : MOK mX12_factor 0 := ⟨memg 1352 rfl rfl, memg 84 rfl rfl, ⟨by decide, by decide, by decide +kernel⟩, by decide⟩
set_option maxRecDepth 100000 in
theorem im_X12_factor : Cond.instanceMethod mX12_factor.1 ∈ lw_good := memg 1350 rfl rfl
set_option maxRecDepth 100000 in
theorem se_X12_factor : Cond.selects mX12_factor.1.cls mX12_factor.1 mX12_factor.1 ∈ lw_good := memg 1351 rfl rfl
abbrev mX12_weakest : MM := (yX12_weakest, cX12_weakest, 1, some .int)
set_option maxRecDepth 100000 in
theorem ok_X12_weakest : MOK mX12_weakest 0 := ⟨memg 1368 rfl rfl, memg 84 rfl rfl, ⟨by decide, by decide, by decide +kernel⟩, by decide⟩
set_option maxRecDepth 100000 in
theorem im_X12_weakest : Cond.instanceMethod mX12_weakest.1 ∈ lw_good := memg 1366 rfl rfl
set_option maxRecDepth 100000 in
theorem se_X12_weakest : Cond.selects mX12_weakest.1.cls mX12_weakest.1 mX12_weakest.1 ∈ lw_good := memg 1367 rfl rfl
abbrev mJ9_abs_0f7a4 : MM := (yJ9_abs_0f7a4, cJ9_abs_0f7a4, 1, some .int)
set_option maxRecDepth 100000 in
theorem ok_J9_abs_0f7a4 : MOK mJ9_abs_0f7a4 1 := ⟨memg 608 rfl rfl, memg 86 rfl rfl, ⟨by decide, by decide, by decide +kernel⟩, by decide⟩
set_option maxRecDepth 100000 in
theorem sm_J9_abs_0f7a4 : Cond.static mJ9_abs_0f7a4.1 ∈ lw_good := memg 607 rfl rfl
abbrev mJ9_abs_067f4 : MM := (yJ9_abs_067f4, cJ9_abs_067f4, 2, some .long)
set_option maxRecDepth 100000 in
theorem ok_J9_abs_067f4 : MOK mJ9_abs_067f4 1 := ⟨memg 626 rfl rfl, memg 86 rfl rfl, ⟨by decide, by decide, by decide +kernel⟩, by decide⟩
set_option maxRecDepth 100000 in
theorem sm_J9_abs_067f4 : Cond.static mJ9_abs_067f4.1 ∈ lw_good := memg 625 rfl rfl
abbrev mJ9_max_7cf53 : MM := (yJ9_max_7cf53, cJ9_max_7cf53, 2, some .int)
set_option maxRecDepth 100000 in
theorem ok_J9_max_7cf53 : MOK mJ9_max_7cf53 2 := ⟨memg 723 rfl rfl, memg 86 rfl rfl, ⟨by decide, by decide, by decide +kernel⟩, by decide⟩
set_option maxRecDepth 100000 in
theorem sm_J9_max_7cf53 : Cond.static mJ9_max_7cf53.1 ∈ lw_good := memg 722 rfl rfl
abbrev mJ9_max_f86c9 : MM := (yJ9_max_f86c9, cJ9_max_f86c9, 4, some .long)
set_option maxRecDepth 100000 in
theorem ok_J9_max_f86c9 : MOK mJ9_max_f86c9 2 := ⟨memg 853 rfl rfl, memg 86 rfl rfl, ⟨by decide, by decide, by decide +kernel⟩, by decide⟩
set_option maxRecDepth 100000 in
theorem sm_J9_max_f86c9 : Cond.static mJ9_max_f86c9.1 ∈ lw_good := memg 852 rfl rfl
abbrev mJ9_min_7cf53 : MM := (yJ9_min_7cf53, cJ9_min_7cf53, 2, some .int)
set_option maxRecDepth 100000 in
theorem ok_J9_min_7cf53 : MOK mJ9_min_7cf53 2 := ⟨memg 605 rfl rfl, memg 86 rfl rfl, ⟨by decide, by decide, by decide +kernel⟩, by decide⟩
set_option maxRecDepth 100000 in
theorem sm_J9_min_7cf53 : Cond.static mJ9_min_7cf53.1 ∈ lw_good := memg 604 rfl rfl
abbrev mJ9_min_f86c9 : MM := (yJ9_min_f86c9, cJ9_min_f86c9, 4, some .long)
set_option maxRecDepth 100000 in
theorem ok_J9_min_f86c9 : MOK mJ9_min_f86c9 2 := ⟨memg 602 rfl rfl, memg 86 rfl rfl, ⟨by decide, by decide, by decide +kernel⟩, by decide⟩
set_option maxRecDepth 100000 in
theorem sm_J9_min_f86c9 : Cond.static mJ9_min_f86c9.1 ∈ lw_good := memg 601 rfl rfl
abbrev mJ7_fill_d0a16 : MM := (yJ7_fill_d0a16, cJ7_fill_d0a16, 5, none)
set_option maxRecDepth 100000 in
theorem ok_J7_fill_d0a16 : MOK mJ7_fill_d0a16 2 := ⟨memg 860 rfl rfl, memg 85 rfl rfl, ⟨by decide, by decide, by decide +kernel⟩, by decide⟩
set_option maxRecDepth 100000 in
theorem sm_J7_fill_d0a16 : Cond.static mJ7_fill_d0a16.1 ∈ lw_good := memg 859 rfl rfl
abbrev mJ7_fill_53178 : MM := (yJ7_fill_53178, cJ7_fill_53178, 4, none)
set_option maxRecDepth 100000 in
theorem ok_J7_fill_53178 : MOK mJ7_fill_53178 2 := ⟨memg 590 rfl rfl, memg 85 rfl rfl, ⟨by decide, by decide, by decide +kernel⟩, by decide⟩
set_option maxRecDepth 100000 in
theorem sm_J7_fill_53178 : Cond.static mJ7_fill_53178.1 ∈ lw_good := memg 589 rfl rfl
abbrev mL_law : MM := (yL_law, cL_law, 4, some .boolean)
theorem cls0 : Cls 0 RX0 TX0 12 := ⟨by decide, rfl, by decide +kernel, tyX0_ok, nmX0⟩
set_option maxRecDepth 100000 in
theorem ini0 : Cond.initialized RX0 ∈ lw_good := memg 78 rfl rfl
set_option maxRecDepth 100000 in
theorem ins0 : Cond.instantiable RX0 12 ∈ lw_good := memg 194 rfl rfl
theorem dfy0 : ∀ k, k < 12 → tyOk 0 (kty 0 k) (dflt 0 k) := by
  intro k hk
  match k, hk with
  | 0, _ => exact (⟨by decide, by decide⟩ : inI 0)
  | 1, _ => exact (⟨by decide, by decide⟩ : (-1 : Int) ≤ -1 ∧ (-1 : Int) < (0 : Nat))
  | 2, _ => exact (⟨by decide, by decide⟩ : (-1 : Int) ≤ -1 ∧ (-1 : Int) < (0 : Nat))
  | 3, _ => exact (⟨by decide, by decide⟩ : (-1 : Int) ≤ -1 ∧ (-1 : Int) < (0 : Nat))
  | 4, _ => exact (⟨by decide, by decide⟩ : (-1 : Int) ≤ -1 ∧ (-1 : Int) < (0 : Nat))
  | 5, _ => exact (⟨by decide, by decide⟩ : inI 0)
  | 6, _ => exact (⟨by decide, by decide⟩ : inI 0)
  | 7, _ => exact (⟨by decide, by decide⟩ : (-1 : Int) ≤ -1 ∧ (-1 : Int) < (0 : Nat))
  | 8, _ => exact (⟨by decide, by decide⟩ : (-1 : Int) ≤ -1 ∧ (-1 : Int) < (0 : Nat))
  | 9, _ => exact (⟨by decide, by decide⟩ : (-1 : Int) ≤ -1 ∧ (-1 : Int) < (0 : Nat))
  | 10, _ => exact (⟨by decide, by decide⟩ : (-1 : Int) ≤ -1 ∧ (-1 : Int) < (0 : Nat))
  | 11, _ => exact (⟨by decide, by decide⟩ : (-1 : Int) ≤ -1 ∧ (-1 : Int) < (0 : Nat))
  | k + 12, hk => exact absurd hk (by omega)
theorem dfv0 : ∀ k, k < 12 → ∀ (φ : Nat → Nat) (b : Nat), defaultValue (fty 0 k) = toV φ b (ftag (fty 0 k), dflt 0 k) := by
  intro k hk φ b
  match k, hk with
  | 0, _ => rfl
  | 1, _ => rfl
  | 2, _ => rfl
  | 3, _ => rfl
  | 4, _ => rfl
  | 5, _ => rfl
  | 6, _ => rfl
  | 7, _ => rfl
  | 8, _ => rfl
  | 9, _ => rfl
  | 10, _ => rfl
  | 11, _ => rfl
  | k + 12, hk => exact absurd hk (by omega)
theorem cls1 : Cls 1 RX1 TX1 8 := ⟨by decide, rfl, by decide +kernel, tyX1_ok, nmX1⟩
set_option maxRecDepth 100000 in
theorem ini1 : Cond.initialized RX1 ∈ lw_good := memg 82 rfl rfl
set_option maxRecDepth 100000 in
theorem ins1 : Cond.instantiable RX1 8 ∈ lw_good := memg 329 rfl rfl
theorem dfy1 : ∀ k, k < 8 → tyOk 0 (kty 1 k) (dflt 1 k) := by
  intro k hk
  match k, hk with
  | 0, _ => exact (⟨by decide, by decide⟩ : (-1 : Int) ≤ -1 ∧ (-1 : Int) < (0 : Nat))
  | 1, _ => exact (⟨by decide, by decide⟩ : inI 0)
  | 2, _ => exact (⟨by decide, by decide⟩ : (-1 : Int) ≤ -1 ∧ (-1 : Int) < (0 : Nat))
  | 3, _ => exact (⟨by decide, by decide⟩ : (-1 : Int) ≤ -1 ∧ (-1 : Int) < (0 : Nat))
  | 4, _ => exact (⟨by decide, by decide⟩ : (-1 : Int) ≤ -1 ∧ (-1 : Int) < (0 : Nat))
  | 5, _ => exact (⟨by decide, by decide⟩ : inI 0)
  | 6, _ => exact (⟨by decide, by decide⟩ : (-1 : Int) ≤ -1 ∧ (-1 : Int) < (0 : Nat))
  | 7, _ => exact (⟨by decide, by decide⟩ : (-1 : Int) ≤ -1 ∧ (-1 : Int) < (0 : Nat))
  | k + 8, hk => exact absurd hk (by omega)
theorem dfv1 : ∀ k, k < 8 → ∀ (φ : Nat → Nat) (b : Nat), defaultValue (fty 1 k) = toV φ b (ftag (fty 1 k), dflt 1 k) := by
  intro k hk φ b
  match k, hk with
  | 0, _ => rfl
  | 1, _ => rfl
  | 2, _ => rfl
  | 3, _ => rfl
  | 4, _ => rfl
  | 5, _ => rfl
  | 6, _ => rfl
  | 7, _ => rfl
  | k + 8, hk => exact absurd hk (by omega)
theorem cls2 : Cls 2 RX2 TX2 3 := ⟨by decide, rfl, by decide +kernel, tyX2_ok, nmX2⟩
set_option maxRecDepth 100000 in
theorem ini2 : Cond.initialized RX2 ∈ lw_good := memg 76 rfl rfl
set_option maxRecDepth 100000 in
theorem ins2 : Cond.instantiable RX2 3 ∈ lw_good := memg 154 rfl rfl
theorem dfy2 : ∀ k, k < 3 → tyOk 0 (kty 2 k) (dflt 2 k) := by
  intro k hk
  match k, hk with
  | 0, _ => exact (⟨by decide, by decide⟩ : inI 0)
  | 1, _ => exact (⟨by decide, by decide⟩ : (-1 : Int) ≤ -1 ∧ (-1 : Int) < (0 : Nat))
  | 2, _ => exact (⟨by decide, by decide⟩ : (-1 : Int) ≤ -1 ∧ (-1 : Int) < (0 : Nat))
  | k + 3, hk => exact absurd hk (by omega)
theorem dfv2 : ∀ k, k < 3 → ∀ (φ : Nat → Nat) (b : Nat), defaultValue (fty 2 k) = toV φ b (ftag (fty 2 k), dflt 2 k) := by
  intro k hk φ b
  match k, hk with
  | 0, _ => rfl
  | 1, _ => rfl
  | 2, _ => rfl
  | k + 3, hk => exact absurd hk (by omega)
theorem cls3 : Cls 3 RX3 TX3 5 := ⟨by decide, rfl, by decide +kernel, tyX3_ok, nmX3⟩
set_option maxRecDepth 100000 in
theorem ini3 : Cond.initialized RX3 ∈ lw_good := memg 74 rfl rfl
set_option maxRecDepth 100000 in
theorem ins3 : Cond.instantiable RX3 5 ∈ lw_good := memg 103 rfl rfl
theorem dfy3 : ∀ k, k < 5 → tyOk 0 (kty 3 k) (dflt 3 k) := by
  intro k hk
  match k, hk with
  | 0, _ => exact (⟨by decide, by decide⟩ : (-1 : Int) ≤ -1 ∧ (-1 : Int) < (0 : Nat))
  | 1, _ => exact (⟨by decide, by decide⟩ : (-1 : Int) ≤ -1 ∧ (-1 : Int) < (0 : Nat))
  | 2, _ => exact (⟨by decide, by decide⟩ : (-1 : Int) ≤ -1 ∧ (-1 : Int) < (0 : Nat))
  | 3, _ => exact (⟨by decide, by decide⟩ : (-1 : Int) ≤ -1 ∧ (-1 : Int) < (0 : Nat))
  | 4, _ => exact (⟨by decide, by decide⟩ : (-1 : Int) ≤ -1 ∧ (-1 : Int) < (0 : Nat))
  | k + 5, hk => exact absurd hk (by omega)
theorem dfv3 : ∀ k, k < 5 → ∀ (φ : Nat → Nat) (b : Nat), defaultValue (fty 3 k) = toV φ b (ftag (fty 3 k), dflt 3 k) := by
  intro k hk φ b
  match k, hk with
  | 0, _ => rfl
  | 1, _ => rfl
  | 2, _ => rfl
  | 3, _ => rfl
  | 4, _ => rfl
  | k + 5, hk => exact absurd hk (by omega)
theorem cls4 : Cls 4 RX4 TX4 18 := ⟨by decide, rfl, by decide +kernel, tyX4_ok, nmX4⟩
set_option maxRecDepth 100000 in
theorem ini4 : Cond.initialized RX4 ∈ lw_good := memg 83 rfl rfl
set_option maxRecDepth 100000 in
theorem ins4 : Cond.instantiable RX4 18 ∈ lw_good := memg 361 rfl rfl
theorem dfy4 : ∀ k, k < 18 → tyOk 0 (kty 4 k) (dflt 4 k) := by
  intro k hk
  match k, hk with
  | 0, _ => exact (⟨by decide, by decide⟩ : inI 0)
  | 1, _ => exact (⟨by decide, by decide⟩ : inI 0)
  | 2, _ => exact (⟨by decide, by decide⟩ : inI 0)
  | 3, _ => exact (⟨by decide, by decide⟩ : inI 0)
  | 4, _ => exact (⟨by decide, by decide⟩ : (-1 : Int) ≤ -1 ∧ (-1 : Int) < (0 : Nat))
  | 5, _ => exact (⟨by decide, by decide⟩ : (-1 : Int) ≤ -1 ∧ (-1 : Int) < (0 : Nat))
  | 6, _ => exact (⟨by decide, by decide⟩ : (-1 : Int) ≤ -1 ∧ (-1 : Int) < (0 : Nat))
  | 7, _ => exact (⟨by decide, by decide⟩ : inI 0)
  | 8, _ => exact (⟨by decide, by decide⟩ : (-1 : Int) ≤ -1 ∧ (-1 : Int) < (0 : Nat))
  | 9, _ => exact (⟨by decide, by decide⟩ : (-1 : Int) ≤ -1 ∧ (-1 : Int) < (0 : Nat))
  | 10, _ => exact (⟨by decide, by decide⟩ : inI 0)
  | 11, _ => exact (⟨by decide, by decide⟩ : (-1 : Int) ≤ -1 ∧ (-1 : Int) < (0 : Nat))
  | 12, _ => exact (⟨by decide, by decide⟩ : (-1 : Int) ≤ -1 ∧ (-1 : Int) < (0 : Nat))
  | 13, _ => exact (⟨by decide, by decide⟩ : (-1 : Int) ≤ -1 ∧ (-1 : Int) < (0 : Nat))
  | 14, _ => exact Or.inl rfl
  | 15, _ => exact Or.inl rfl
  | 16, _ => exact (⟨by decide, by decide⟩ : inI 0)
  | 17, _ => exact (⟨by decide, by decide⟩ : (-1 : Int) ≤ -1 ∧ (-1 : Int) < (0 : Nat))
  | k + 18, hk => exact absurd hk (by omega)
theorem dfv4 : ∀ k, k < 18 → ∀ (φ : Nat → Nat) (b : Nat), defaultValue (fty 4 k) = toV φ b (ftag (fty 4 k), dflt 4 k) := by
  intro k hk φ b
  match k, hk with
  | 0, _ => rfl
  | 1, _ => rfl
  | 2, _ => rfl
  | 3, _ => rfl
  | 4, _ => rfl
  | 5, _ => rfl
  | 6, _ => rfl
  | 7, _ => rfl
  | 8, _ => rfl
  | 9, _ => rfl
  | 10, _ => rfl
  | 11, _ => rfl
  | 12, _ => rfl
  | 13, _ => rfl
  | 14, _ => rfl
  | 15, _ => rfl
  | 16, _ => rfl
  | 17, _ => rfl
  | k + 18, hk => exact absurd hk (by omega)
theorem cls5 : Cls 5 RX5 TX5 2 := ⟨by decide, rfl, by decide +kernel, tyX5_ok, nmX5⟩
set_option maxRecDepth 100000 in
theorem ini5 : Cond.initialized RX5 ∈ lw_good := memg 80 rfl rfl
set_option maxRecDepth 100000 in
theorem ins5 : Cond.instantiable RX5 2 ∈ lw_good := memg 210 rfl rfl
theorem dfy5 : ∀ k, k < 2 → tyOk 0 (kty 5 k) (dflt 5 k) := by
  intro k hk
  match k, hk with
  | 0, _ => exact (⟨by decide, by decide⟩ : inL 0)
  | 1, _ => exact (⟨by decide, by decide⟩ : inL 0)
  | k + 2, hk => exact absurd hk (by omega)
theorem dfv5 : ∀ k, k < 2 → ∀ (φ : Nat → Nat) (b : Nat), defaultValue (fty 5 k) = toV φ b (ftag (fty 5 k), dflt 5 k) := by
  intro k hk φ b
  match k, hk with
  | 0, _ => rfl
  | 1, _ => rfl
  | k + 2, hk => exact absurd hk (by omega)
theorem cls6 : Cls 6 RX6 TX6 3 := ⟨by decide, rfl, by decide +kernel, tyX6_ok, nmX6⟩
set_option maxRecDepth 100000 in
theorem ini6 : Cond.initialized RX6 ∈ lw_good := memg 77 rfl rfl
set_option maxRecDepth 100000 in
theorem ins6 : Cond.instantiable RX6 3 ∈ lw_good := memg 176 rfl rfl
theorem dfy6 : ∀ k, k < 3 → tyOk 0 (kty 6 k) (dflt 6 k) := by
  intro k hk
  match k, hk with
  | 0, _ => exact (⟨by decide, by decide⟩ : inI 0)
  | 1, _ => exact (⟨by decide, by decide⟩ : (-1 : Int) ≤ -1 ∧ (-1 : Int) < (0 : Nat))
  | 2, _ => exact (⟨by decide, by decide⟩ : (-1 : Int) ≤ -1 ∧ (-1 : Int) < (0 : Nat))
  | k + 3, hk => exact absurd hk (by omega)
theorem dfv6 : ∀ k, k < 3 → ∀ (φ : Nat → Nat) (b : Nat), defaultValue (fty 6 k) = toV φ b (ftag (fty 6 k), dflt 6 k) := by
  intro k hk φ b
  match k, hk with
  | 0, _ => rfl
  | 1, _ => rfl
  | 2, _ => rfl
  | k + 3, hk => exact absurd hk (by omega)
theorem cls7 : Cls 7 RX7 TX7 5 := ⟨by decide, rfl, by decide +kernel, tyX7_ok, nmX7⟩
set_option maxRecDepth 100000 in
theorem ini7 : Cond.initialized RX7 ∈ lw_good := memg 81 rfl rfl
set_option maxRecDepth 100000 in
theorem ins7 : Cond.instantiable RX7 5 ∈ lw_good := memg 255 rfl rfl
theorem dfy7 : ∀ k, k < 5 → tyOk 0 (kty 7 k) (dflt 7 k) := by
  intro k hk
  match k, hk with
  | 0, _ => exact (⟨by decide, by decide⟩ : inI 0)
  | 1, _ => exact (⟨by decide, by decide⟩ : inI 0)
  | 2, _ => exact (⟨by decide, by decide⟩ : inI 0)
  | 3, _ => exact (⟨by decide, by decide⟩ : (-1 : Int) ≤ -1 ∧ (-1 : Int) < (0 : Nat))
  | 4, _ => exact (⟨by decide, by decide⟩ : (-1 : Int) ≤ -1 ∧ (-1 : Int) < (0 : Nat))
  | k + 5, hk => exact absurd hk (by omega)
theorem dfv7 : ∀ k, k < 5 → ∀ (φ : Nat → Nat) (b : Nat), defaultValue (fty 7 k) = toV φ b (ftag (fty 7 k), dflt 7 k) := by
  intro k hk φ b
  match k, hk with
  | 0, _ => rfl
  | 1, _ => rfl
  | 2, _ => rfl
  | 3, _ => rfl
  | 4, _ => rfl
  | k + 5, hk => exact absurd hk (by omega)
theorem cls8 : Cls 8 RX8 TX8 3 := ⟨by decide, rfl, by decide +kernel, tyX8_ok, nmX8⟩
set_option maxRecDepth 100000 in
theorem ini8 : Cond.initialized RX8 ∈ lw_good := memg 73 rfl rfl
set_option maxRecDepth 100000 in
theorem ins8 : Cond.instantiable RX8 3 ∈ lw_good := memg 97 rfl rfl
theorem dfy8 : ∀ k, k < 3 → tyOk 0 (kty 8 k) (dflt 8 k) := by
  intro k hk
  match k, hk with
  | 0, _ => exact (⟨by decide, by decide⟩ : inI 0)
  | 1, _ => exact (⟨by decide, by decide⟩ : (-1 : Int) ≤ -1 ∧ (-1 : Int) < (0 : Nat))
  | 2, _ => exact (⟨by decide, by decide⟩ : (-1 : Int) ≤ -1 ∧ (-1 : Int) < (0 : Nat))
  | k + 3, hk => exact absurd hk (by omega)
theorem dfv8 : ∀ k, k < 3 → ∀ (φ : Nat → Nat) (b : Nat), defaultValue (fty 8 k) = toV φ b (ftag (fty 8 k), dflt 8 k) := by
  intro k hk φ b
  match k, hk with
  | 0, _ => rfl
  | 1, _ => rfl
  | 2, _ => rfl
  | k + 3, hk => exact absurd hk (by omega)
theorem cls9 : Cls 9 RX9 TX9 6 := ⟨by decide, rfl, by decide +kernel, tyX9_ok, nmX9⟩
set_option maxRecDepth 100000 in
theorem ini9 : Cond.initialized RX9 ∈ lw_good := memg 79 rfl rfl
set_option maxRecDepth 100000 in
theorem ins9 : Cond.instantiable RX9 6 ∈ lw_good := memg 204 rfl rfl
theorem dfy9 : ∀ k, k < 6 → tyOk 0 (kty 9 k) (dflt 9 k) := by
  intro k hk
  match k, hk with
  | 0, _ => exact (⟨by decide, by decide⟩ : (-1 : Int) ≤ -1 ∧ (-1 : Int) < (0 : Nat))
  | 1, _ => exact (⟨by decide, by decide⟩ : (-1 : Int) ≤ -1 ∧ (-1 : Int) < (0 : Nat))
  | 2, _ => exact (⟨by decide, by decide⟩ : (-1 : Int) ≤ -1 ∧ (-1 : Int) < (0 : Nat))
  | 3, _ => exact (⟨by decide, by decide⟩ : inI 0)
  | 4, _ => exact (⟨by decide, by decide⟩ : inI 0)
  | 5, _ => exact (⟨by decide, by decide⟩ : inL 0)
  | k + 6, hk => exact absurd hk (by omega)
theorem dfv9 : ∀ k, k < 6 → ∀ (φ : Nat → Nat) (b : Nat), defaultValue (fty 9 k) = toV φ b (ftag (fty 9 k), dflt 9 k) := by
  intro k hk φ b
  match k, hk with
  | 0, _ => rfl
  | 1, _ => rfl
  | 2, _ => rfl
  | 3, _ => rfl
  | 4, _ => rfl
  | 5, _ => rfl
  | k + 6, hk => exact absurd hk (by omega)
theorem cls10 : Cls 10 RX10 TX10 1 := ⟨by decide, rfl, by decide +kernel, tyX10_ok, nmX10⟩
set_option maxRecDepth 100000 in
theorem ini10 : Cond.initialized RX10 ∈ lw_good := memg 75 rfl rfl
set_option maxRecDepth 100000 in
theorem ins10 : Cond.instantiable RX10 1 ∈ lw_good := memg 109 rfl rfl
theorem dfy10 : ∀ k, k < 1 → tyOk 0 (kty 10 k) (dflt 10 k) := by
  intro k hk
  match k, hk with
  | 0, _ => exact (⟨by decide, by decide⟩ : (-1 : Int) ≤ -1 ∧ (-1 : Int) < (0 : Nat))
  | k + 1, hk => exact absurd hk (by omega)
theorem dfv10 : ∀ k, k < 1 → ∀ (φ : Nat → Nat) (b : Nat), defaultValue (fty 10 k) = toV φ b (ftag (fty 10 k), dflt 10 k) := by
  intro k hk φ b
  match k, hk with
  | 0, _ => rfl
  | k + 1, hk => exact absurd hk (by omega)
theorem cls11 : Cls 11 RX11 TX11 8 := ⟨by decide, rfl, by decide +kernel, tyX11_ok, nmX11⟩
set_option maxRecDepth 100000 in
theorem ini11 : Cond.initialized RX11 ∈ lw_good := memg 72 rfl rfl
set_option maxRecDepth 100000 in
theorem ins11 : Cond.instantiable RX11 8 ∈ lw_good := memg 89 rfl rfl
theorem dfy11 : ∀ k, k < 8 → tyOk 0 (kty 11 k) (dflt 11 k) := by
  intro k hk
  match k, hk with
  | 0, _ => exact (⟨by decide, by decide⟩ : inI 0)
  | 1, _ => exact (⟨by decide, by decide⟩ : (-1 : Int) ≤ -1 ∧ (-1 : Int) < (0 : Nat))
  | 2, _ => exact (⟨by decide, by decide⟩ : (-1 : Int) ≤ -1 ∧ (-1 : Int) < (0 : Nat))
  | 3, _ => exact (⟨by decide, by decide⟩ : (-1 : Int) ≤ -1 ∧ (-1 : Int) < (0 : Nat))
  | 4, _ => exact (⟨by decide, by decide⟩ : (-1 : Int) ≤ -1 ∧ (-1 : Int) < (0 : Nat))
  | 5, _ => exact (⟨by decide, by decide⟩ : (-1 : Int) ≤ -1 ∧ (-1 : Int) < (0 : Nat))
  | 6, _ => exact (⟨by decide, by decide⟩ : (-1 : Int) ≤ -1 ∧ (-1 : Int) < (0 : Nat))
  | 7, _ => exact (⟨by decide, by decide⟩ : (-1 : Int) ≤ -1 ∧ (-1 : Int) < (0 : Nat))
  | k + 8, hk => exact absurd hk (by omega)
theorem dfv11 : ∀ k, k < 8 → ∀ (φ : Nat → Nat) (b : Nat), defaultValue (fty 11 k) = toV φ b (ftag (fty 11 k), dflt 11 k) := by
  intro k hk φ b
  match k, hk with
  | 0, _ => rfl
  | 1, _ => rfl
  | 2, _ => rfl
  | 3, _ => rfl
  | 4, _ => rfl
  | 5, _ => rfl
  | 6, _ => rfl
  | 7, _ => rfl
  | k + 8, hk => exact absurd hk (by omega)
theorem cls12 : Cls 12 RX12 TX12 51 := ⟨by decide, rfl, by decide +kernel, tyX12_ok, nmX12⟩
set_option maxRecDepth 100000 in
theorem ini12 : Cond.initialized RX12 ∈ lw_good := memg 84 rfl rfl
set_option maxRecDepth 100000 in
theorem ins12 : Cond.instantiable RX12 51 ∈ lw_good := memg 919 rfl rfl
theorem dfy12 : ∀ k, k < 51 → tyOk 0 (kty 12 k) (dflt 12 k) := by
  intro k hk
  match k, hk with
  | 0, _ => exact (⟨by decide, by decide⟩ : inI 0)
  | 1, _ => exact (⟨by decide, by decide⟩ : (-1 : Int) ≤ -1 ∧ (-1 : Int) < (0 : Nat))
  | 2, _ => exact (⟨by decide, by decide⟩ : inI 0)
  | 3, _ => exact (⟨by decide, by decide⟩ : (-1 : Int) ≤ -1 ∧ (-1 : Int) < (0 : Nat))
  | 4, _ => exact (⟨by decide, by decide⟩ : (-1 : Int) ≤ -1 ∧ (-1 : Int) < (0 : Nat))
  | 5, _ => exact (⟨by decide, by decide⟩ : (-1 : Int) ≤ -1 ∧ (-1 : Int) < (0 : Nat))
  | 6, _ => exact (⟨by decide, by decide⟩ : inI 0)
  | 7, _ => exact (⟨by decide, by decide⟩ : inI 0)
  | 8, _ => exact (⟨by decide, by decide⟩ : (-1 : Int) ≤ -1 ∧ (-1 : Int) < (0 : Nat))
  | 9, _ => exact (⟨by decide, by decide⟩ : inI 0)
  | 10, _ => exact (⟨by decide, by decide⟩ : (-1 : Int) ≤ -1 ∧ (-1 : Int) < (0 : Nat))
  | 11, _ => exact (⟨by decide, by decide⟩ : (-1 : Int) ≤ -1 ∧ (-1 : Int) < (0 : Nat))
  | 12, _ => exact (⟨by decide, by decide⟩ : (-1 : Int) ≤ -1 ∧ (-1 : Int) < (0 : Nat))
  | 13, _ => exact (⟨by decide, by decide⟩ : (-1 : Int) ≤ -1 ∧ (-1 : Int) < (0 : Nat))
  | 14, _ => exact (⟨by decide, by decide⟩ : (-1 : Int) ≤ -1 ∧ (-1 : Int) < (0 : Nat))
  | 15, _ => exact (⟨by decide, by decide⟩ : (-1 : Int) ≤ -1 ∧ (-1 : Int) < (0 : Nat))
  | 16, _ => exact (⟨by decide, by decide⟩ : (-1 : Int) ≤ -1 ∧ (-1 : Int) < (0 : Nat))
  | 17, _ => exact (⟨by decide, by decide⟩ : (-1 : Int) ≤ -1 ∧ (-1 : Int) < (0 : Nat))
  | 18, _ => exact (⟨by decide, by decide⟩ : (-1 : Int) ≤ -1 ∧ (-1 : Int) < (0 : Nat))
  | 19, _ => exact (⟨by decide, by decide⟩ : inL 0)
  | 20, _ => exact (⟨by decide, by decide⟩ : inL 0)
  | 21, _ => exact (⟨by decide, by decide⟩ : inL 0)
  | 22, _ => exact (⟨by decide, by decide⟩ : inL 0)
  | 23, _ => exact (⟨by decide, by decide⟩ : (-1 : Int) ≤ -1 ∧ (-1 : Int) < (0 : Nat))
  | 24, _ => exact (⟨by decide, by decide⟩ : (-1 : Int) ≤ -1 ∧ (-1 : Int) < (0 : Nat))
  | 25, _ => exact (⟨by decide, by decide⟩ : (-1 : Int) ≤ -1 ∧ (-1 : Int) < (0 : Nat))
  | 26, _ => exact (⟨by decide, by decide⟩ : (-1 : Int) ≤ -1 ∧ (-1 : Int) < (0 : Nat))
  | 27, _ => exact (⟨by decide, by decide⟩ : inI 0)
  | 28, _ => exact (⟨by decide, by decide⟩ : inI 0)
  | 29, _ => exact (⟨by decide, by decide⟩ : (-1 : Int) ≤ -1 ∧ (-1 : Int) < (0 : Nat))
  | 30, _ => exact (⟨by decide, by decide⟩ : inI 0)
  | 31, _ => exact (⟨by decide, by decide⟩ : (-1 : Int) ≤ -1 ∧ (-1 : Int) < (0 : Nat))
  | 32, _ => exact (⟨by decide, by decide⟩ : (-1 : Int) ≤ -1 ∧ (-1 : Int) < (0 : Nat))
  | 33, _ => exact (⟨by decide, by decide⟩ : (-1 : Int) ≤ -1 ∧ (-1 : Int) < (0 : Nat))
  | 34, _ => exact (⟨by decide, by decide⟩ : (-1 : Int) ≤ -1 ∧ (-1 : Int) < (0 : Nat))
  | 35, _ => exact (⟨by decide, by decide⟩ : (-1 : Int) ≤ -1 ∧ (-1 : Int) < (0 : Nat))
  | 36, _ => exact (⟨by decide, by decide⟩ : (-1 : Int) ≤ -1 ∧ (-1 : Int) < (0 : Nat))
  | 37, _ => exact (⟨by decide, by decide⟩ : inI 0)
  | 38, _ => exact (⟨by decide, by decide⟩ : inL 0)
  | 39, _ => exact (⟨by decide, by decide⟩ : inL 0)
  | 40, _ => exact (⟨by decide, by decide⟩ : inL 0)
  | 41, _ => exact (⟨by decide, by decide⟩ : inL 0)
  | 42, _ => exact (⟨by decide, by decide⟩ : inL 0)
  | 43, _ => exact (⟨by decide, by decide⟩ : inL 0)
  | 44, _ => exact (⟨by decide, by decide⟩ : inL 0)
  | 45, _ => exact (⟨by decide, by decide⟩ : inL 0)
  | 46, _ => exact (⟨by decide, by decide⟩ : inL 0)
  | 47, _ => exact (⟨by decide, by decide⟩ : inI 0)
  | 48, _ => exact (⟨by decide, by decide⟩ : inI 0)
  | 49, _ => exact (⟨by decide, by decide⟩ : (-1 : Int) ≤ -1 ∧ (-1 : Int) < (0 : Nat))
  | 50, _ => exact (⟨by decide, by decide⟩ : inI 0)
  | k + 51, hk => exact absurd hk (by omega)
theorem dfv12 : ∀ k, k < 51 → ∀ (φ : Nat → Nat) (b : Nat), defaultValue (fty 12 k) = toV φ b (ftag (fty 12 k), dflt 12 k) := by
  intro k hk φ b
  match k, hk with
  | 0, _ => rfl
  | 1, _ => rfl
  | 2, _ => rfl
  | 3, _ => rfl
  | 4, _ => rfl
  | 5, _ => rfl
  | 6, _ => rfl
  | 7, _ => rfl
  | 8, _ => rfl
  | 9, _ => rfl
  | 10, _ => rfl
  | 11, _ => rfl
  | 12, _ => rfl
  | 13, _ => rfl
  | 14, _ => rfl
  | 15, _ => rfl
  | 16, _ => rfl
  | 17, _ => rfl
  | 18, _ => rfl
  | 19, _ => rfl
  | 20, _ => rfl
  | 21, _ => rfl
  | 22, _ => rfl
  | 23, _ => rfl
  | 24, _ => rfl
  | 25, _ => rfl
  | 26, _ => rfl
  | 27, _ => rfl
  | 28, _ => rfl
  | 29, _ => rfl
  | 30, _ => rfl
  | 31, _ => rfl
  | 32, _ => rfl
  | 33, _ => rfl
  | 34, _ => rfl
  | 35, _ => rfl
  | 36, _ => rfl
  | 37, _ => rfl
  | 38, _ => rfl
  | 39, _ => rfl
  | 40, _ => rfl
  | 41, _ => rfl
  | 42, _ => rfl
  | 43, _ => rfl
  | 44, _ => rfl
  | 45, _ => rfl
  | 46, _ => rfl
  | 47, _ => rfl
  | 48, _ => rfl
  | 49, _ => rfl
  | 50, _ => rfl
  | k + 51, hk => exact absurd hk (by omega)
set_option maxRecDepth 100000 in
theorem cl_RL_7 : Cond.classLink RL 7 RX11 ∈ lw_good := memg 88 rfl rfl
set_option maxRecDepth 100000 in
theorem ml_RL_9 : Cond.methodLink RL 9 mX11_init.1 ∈ lw_good := memg 90 rfl rfl
set_option maxRecDepth 100000 in
theorem ml_RX11_1 : Cond.methodLink RX11 1 objectInit ∈ lw_good := memg 93 rfl rfl
set_option maxRecDepth 100000 in
theorem cl_RX11_13 : Cond.classLink RX11 13 RX8 ∈ lw_good := memg 96 rfl rfl
set_option maxRecDepth 100000 in
theorem mn_RX11_15 : Cond.methodLinkNest RX11 15 mX8_init.1 "RodBeam" ∈ lw_nest := memn 98 rfl rfl
set_option maxRecDepth 100000 in
theorem ml_RX8_3 : Cond.methodLink RX8 3 objectInit ∈ lw_good := memg 101 rfl rfl
set_option maxRecDepth 100000 in
theorem cl_RX8_19 : Cond.classLink RX8 19 RX3 ∈ lw_good := memg 102 rfl rfl
set_option maxRecDepth 100000 in
theorem mn_RX8_21 : Cond.methodLinkNest RX8 21 mX3_init.1 "RodBeam" ∈ lw_nest := memn 104 rfl rfl
set_option maxRecDepth 100000 in
theorem ml_RX3_1 : Cond.methodLink RX3 1 objectInit ∈ lw_good := memg 107 rfl rfl
set_option maxRecDepth 100000 in
theorem cl_RX3_7 : Cond.classLink RX3 7 RX10 ∈ lw_good := memg 108 rfl rfl
set_option maxRecDepth 100000 in
theorem mn_RX3_9 : Cond.methodLinkNest RX3 9 mX10_init.1 "RodBeam" ∈ lw_nest := memn 110 rfl rfl
set_option maxRecDepth 100000 in
theorem ml_RX10_1 : Cond.methodLink RX10 1 objectInit ∈ lw_good := memg 113 rfl rfl
set_option maxRecDepth 100000 in
theorem fl_RX10_9 : Cond.fieldLink RX10 9 (TX10 0).1 (TX10 0).2.1 (TX10 0).2.2.1 ∈ lw_good := memg 114 rfl rfl
set_option maxRecDepth 100000 in
theorem fl_RX8_67 : Cond.fieldLink RX8 67 (TX10 0).1 (TX10 0).2.1 (TX10 0).2.2.1 ∈ lw_good := memg 115 rfl rfl
set_option maxRecDepth 100000 in
theorem ac_int : Cond.arrayClass .int ∈ lw_good := memg 119 rfl rfl
set_option maxRecDepth 100000 in
theorem ac_long : Cond.arrayClass .long ∈ lw_good := memg 120 rfl rfl
set_option maxRecDepth 100000 in
theorem fl_RX3_10 : Cond.fieldLink RX3 10 (TX3 0).1 (TX3 0).2.1 (TX3 0).2.2.1 ∈ lw_good := memg 121 rfl rfl
set_option maxRecDepth 100000 in
theorem fl_RX8_56 : Cond.fieldLink RX8 56 (TX3 0).1 (TX3 0).2.1 (TX3 0).2.2.1 ∈ lw_good := memg 122 rfl rfl
set_option maxRecDepth 100000 in
theorem fl_RX3_16 : Cond.fieldLink RX3 16 (TX3 1).1 (TX3 1).2.1 (TX3 1).2.2.1 ∈ lw_good := memg 123 rfl rfl
set_option maxRecDepth 100000 in
theorem fl_RX8_63 : Cond.fieldLink RX8 63 (TX3 1).1 (TX3 1).2.1 (TX3 1).2.2.1 ∈ lw_good := memg 124 rfl rfl
set_option maxRecDepth 100000 in
theorem fl_RX3_19 : Cond.fieldLink RX3 19 (TX3 2).1 (TX3 2).2.1 (TX3 2).2.2.1 ∈ lw_good := memg 125 rfl rfl
set_option maxRecDepth 100000 in
theorem fl_RX3_22 : Cond.fieldLink RX3 22 (TX3 3).1 (TX3 3).2.1 (TX3 3).2.2.1 ∈ lw_good := memg 126 rfl rfl
set_option maxRecDepth 100000 in
theorem fl_RX3_25 : Cond.fieldLink RX3 25 (TX3 4).1 (TX3 4).2.1 (TX3 4).2.2.1 ∈ lw_good := memg 127 rfl rfl
set_option maxRecDepth 100000 in
theorem fl_RX8_9 : Cond.fieldLink RX8 9 (TX8 0).1 (TX8 0).2.1 (TX8 0).2.2.1 ∈ lw_good := memg 139 rfl rfl
set_option maxRecDepth 100000 in
theorem fl_RX11_62 : Cond.fieldLink RX11 62 (TX8 0).1 (TX8 0).2.1 (TX8 0).2.2.1 ∈ lw_good := memg 140 rfl rfl
set_option maxRecDepth 100000 in
theorem fl_RX8_15 : Cond.fieldLink RX8 15 (TX8 1).1 (TX8 1).2.1 (TX8 1).2.2.1 ∈ lw_good := memg 141 rfl rfl
set_option maxRecDepth 100000 in
theorem fl_RX11_65 : Cond.fieldLink RX11 65 (TX8 1).1 (TX8 1).2.1 (TX8 1).2.2.1 ∈ lw_good := memg 142 rfl rfl
set_option maxRecDepth 100000 in
theorem fl_RX8_22 : Cond.fieldLink RX8 22 (TX8 2).1 (TX8 2).2.1 (TX8 2).2.2.1 ∈ lw_good := memg 143 rfl rfl
set_option maxRecDepth 100000 in
theorem cl_RX11_20 : Cond.classLink RX11 20 RX4 ∈ lw_good := memg 151 rfl rfl
set_option maxRecDepth 100000 in
theorem ao_RX4 : Cond.arrayOver (.object RX4) ∈ lw_nest := memn 152 rfl rfl
set_option maxRecDepth 100000 in
theorem cl_RX11_26 : Cond.classLink RX11 26 RX2 ∈ lw_good := memg 153 rfl rfl
set_option maxRecDepth 100000 in
theorem mn_RX11_28 : Cond.methodLinkNest RX11 28 mX2_init.1 "RodBeam" ∈ lw_nest := memn 155 rfl rfl
set_option maxRecDepth 100000 in
theorem ml_RX2_3 : Cond.methodLink RX2 3 objectInit ∈ lw_good := memg 158 rfl rfl
set_option maxRecDepth 100000 in
theorem fl_RX2_9 : Cond.fieldLink RX2 9 (TX2 0).1 (TX2 0).2.1 (TX2 0).2.2.1 ∈ lw_good := memg 159 rfl rfl
set_option maxRecDepth 100000 in
theorem fl_RX1_82 : Cond.fieldLink RX1 82 (TX2 0).1 (TX2 0).2.1 (TX2 0).2.2.1 ∈ lw_good := memg 160 rfl rfl
set_option maxRecDepth 100000 in
theorem fl_RX11_157 : Cond.fieldLink RX11 157 (TX2 0).1 (TX2 0).2.1 (TX2 0).2.2.1 ∈ lw_good := memg 161 rfl rfl
set_option maxRecDepth 100000 in
theorem fl_RX2_15 : Cond.fieldLink RX2 15 (TX2 1).1 (TX2 1).2.1 (TX2 1).2.2.1 ∈ lw_good := memg 162 rfl rfl
set_option maxRecDepth 100000 in
theorem fl_RX1_87 : Cond.fieldLink RX1 87 (TX2 1).1 (TX2 1).2.1 (TX2 1).2.2.1 ∈ lw_good := memg 163 rfl rfl
set_option maxRecDepth 100000 in
theorem fl_RX11_166 : Cond.fieldLink RX11 166 (TX2 1).1 (TX2 1).2.1 (TX2 1).2.2.1 ∈ lw_good := memg 164 rfl rfl
set_option maxRecDepth 100000 in
theorem fl_RX2_19 : Cond.fieldLink RX2 19 (TX2 2).1 (TX2 2).2.1 (TX2 2).2.2.1 ∈ lw_good := memg 165 rfl rfl
set_option maxRecDepth 100000 in
theorem fl_RX1_90 : Cond.fieldLink RX1 90 (TX2 2).1 (TX2 2).2.1 (TX2 2).2.2.1 ∈ lw_good := memg 166 rfl rfl
set_option maxRecDepth 100000 in
theorem fl_RX11_169 : Cond.fieldLink RX11 169 (TX2 2).1 (TX2 2).2.1 (TX2 2).2.2.1 ∈ lw_good := memg 167 rfl rfl
set_option maxRecDepth 100000 in
theorem cl_RX11_33 : Cond.classLink RX11 33 RX6 ∈ lw_good := memg 175 rfl rfl
set_option maxRecDepth 100000 in
theorem mn_RX11_35 : Cond.methodLinkNest RX11 35 mX6_init.1 "RodBeam" ∈ lw_nest := memn 177 rfl rfl
set_option maxRecDepth 100000 in
theorem ml_RX6_3 : Cond.methodLink RX6 3 objectInit ∈ lw_good := memg 180 rfl rfl
set_option maxRecDepth 100000 in
theorem fl_RX6_9 : Cond.fieldLink RX6 9 (TX6 0).1 (TX6 0).2.1 (TX6 0).2.2.1 ∈ lw_good := memg 181 rfl rfl
set_option maxRecDepth 100000 in
theorem fl_RX1_116 : Cond.fieldLink RX1 116 (TX6 0).1 (TX6 0).2.1 (TX6 0).2.2.1 ∈ lw_good := memg 182 rfl rfl
set_option maxRecDepth 100000 in
theorem fl_RX11_172 : Cond.fieldLink RX11 172 (TX6 0).1 (TX6 0).2.1 (TX6 0).2.2.1 ∈ lw_good := memg 183 rfl rfl
set_option maxRecDepth 100000 in
theorem fl_RX6_15 : Cond.fieldLink RX6 15 (TX6 1).1 (TX6 1).2.1 (TX6 1).2.2.1 ∈ lw_good := memg 184 rfl rfl
set_option maxRecDepth 100000 in
theorem fl_RX6_19 : Cond.fieldLink RX6 19 (TX6 2).1 (TX6 2).2.1 (TX6 2).2.2.1 ∈ lw_good := memg 185 rfl rfl
set_option maxRecDepth 100000 in
theorem cl_RX11_40 : Cond.classLink RX11 40 RX0 ∈ lw_good := memg 193 rfl rfl
set_option maxRecDepth 100000 in
theorem ml_RX11_42 : Cond.methodLink RX11 42 mX0_init.1 ∈ lw_good := memg 195 rfl rfl
set_option maxRecDepth 100000 in
theorem ml_RX0_3 : Cond.methodLink RX0 3 objectInit ∈ lw_good := memg 198 rfl rfl
set_option maxRecDepth 100000 in
theorem cl_RX0_15 : Cond.classLink RX0 15 RX7 ∈ lw_good := memg 199 rfl rfl
set_option maxRecDepth 100000 in
theorem ao_RX7 : Cond.arrayOver (.object RX7) ∈ lw_nest := memn 200 rfl rfl
set_option maxRecDepth 100000 in
theorem cl_RX0_25 : Cond.classLink RX0 25 RX3 ∈ lw_good := memg 201 rfl rfl
set_option maxRecDepth 100000 in
theorem mn_RX0_27 : Cond.methodLinkNest RX0 27 mX3_init.1 "RodBeam" ∈ lw_nest := memn 202 rfl rfl
set_option maxRecDepth 100000 in
theorem cl_RX0_41 : Cond.classLink RX0 41 RX9 ∈ lw_good := memg 203 rfl rfl
set_option maxRecDepth 100000 in
theorem mn_RX0_43 : Cond.methodLinkNest RX0 43 mX9_init.1 "RodBeam" ∈ lw_nest := memn 205 rfl rfl
set_option maxRecDepth 100000 in
theorem ml_RX9_1 : Cond.methodLink RX9 1 objectInit ∈ lw_good := memg 208 rfl rfl
set_option maxRecDepth 100000 in
theorem cl_RX9_7 : Cond.classLink RX9 7 RX5 ∈ lw_good := memg 209 rfl rfl
set_option maxRecDepth 100000 in
theorem mn_RX9_9 : Cond.methodLinkNest RX9 9 mX5_init.1 "RodBeam" ∈ lw_nest := memn 211 rfl rfl
set_option maxRecDepth 100000 in
theorem ml_RX5_1 : Cond.methodLink RX5 1 objectInit ∈ lw_good := memg 214 rfl rfl
set_option maxRecDepth 100000 in
theorem fl_RX5_7 : Cond.fieldLink RX5 7 (TX5 0).1 (TX5 0).2.1 (TX5 0).2.2.1 ∈ lw_good := memg 215 rfl rfl
set_option maxRecDepth 100000 in
theorem fl_RX8_31 : Cond.fieldLink RX8 31 (TX5 0).1 (TX5 0).2.1 (TX5 0).2.2.1 ∈ lw_good := memg 216 rfl rfl
set_option maxRecDepth 100000 in
theorem fl_RX3_52 : Cond.fieldLink RX3 52 (TX5 0).1 (TX5 0).2.1 (TX5 0).2.2.1 ∈ lw_good := memg 217 rfl rfl
set_option maxRecDepth 100000 in
theorem fl_RX9_69 : Cond.fieldLink RX9 69 (TX5 0).1 (TX5 0).2.1 (TX5 0).2.2.1 ∈ lw_good := memg 218 rfl rfl
set_option maxRecDepth 100000 in
theorem fl_RX0_133 : Cond.fieldLink RX0 133 (TX5 0).1 (TX5 0).2.1 (TX5 0).2.2.1 ∈ lw_good := memg 219 rfl rfl
set_option maxRecDepth 100000 in
theorem fl_RX5_13 : Cond.fieldLink RX5 13 (TX5 1).1 (TX5 1).2.1 (TX5 1).2.2.1 ∈ lw_good := memg 220 rfl rfl
set_option maxRecDepth 100000 in
theorem fl_RX8_41 : Cond.fieldLink RX8 41 (TX5 1).1 (TX5 1).2.1 (TX5 1).2.2.1 ∈ lw_good := memg 221 rfl rfl
set_option maxRecDepth 100000 in
theorem fl_RX3_36 : Cond.fieldLink RX3 36 (TX5 1).1 (TX5 1).2.1 (TX5 1).2.2.1 ∈ lw_good := memg 222 rfl rfl
set_option maxRecDepth 100000 in
theorem fl_RX9_66 : Cond.fieldLink RX9 66 (TX5 1).1 (TX5 1).2.1 (TX5 1).2.2.1 ∈ lw_good := memg 223 rfl rfl
set_option maxRecDepth 100000 in
theorem fl_RX0_137 : Cond.fieldLink RX0 137 (TX5 1).1 (TX5 1).2.1 (TX5 1).2.2.1 ∈ lw_good := memg 224 rfl rfl
set_option maxRecDepth 100000 in
theorem ac_boolean : Cond.arrayClass .boolean ∈ lw_good := memg 230 rfl rfl
set_option maxRecDepth 100000 in
theorem fl_RX9_10 : Cond.fieldLink RX9 10 (TX9 0).1 (TX9 0).2.1 (TX9 0).2.2.1 ∈ lw_good := memg 231 rfl rfl
set_option maxRecDepth 100000 in
theorem fl_RX0_130 : Cond.fieldLink RX0 130 (TX9 0).1 (TX9 0).2.1 (TX9 0).2.2.1 ∈ lw_good := memg 232 rfl rfl
set_option maxRecDepth 100000 in
theorem fl_RX11_139 : Cond.fieldLink RX11 139 (TX9 0).1 (TX9 0).2.1 (TX9 0).2.2.1 ∈ lw_good := memg 233 rfl rfl
set_option maxRecDepth 100000 in
theorem fl_RX9_16 : Cond.fieldLink RX9 16 (TX9 1).1 (TX9 1).2.1 (TX9 1).2.2.1 ∈ lw_good := memg 234 rfl rfl
set_option maxRecDepth 100000 in
theorem fl_RX11_147 : Cond.fieldLink RX11 147 (TX9 1).1 (TX9 1).2.1 (TX9 1).2.2.1 ∈ lw_good := memg 235 rfl rfl
set_option maxRecDepth 100000 in
theorem fl_RX9_21 : Cond.fieldLink RX9 21 (TX9 2).1 (TX9 2).2.1 (TX9 2).2.2.1 ∈ lw_good := memg 236 rfl rfl
set_option maxRecDepth 100000 in
theorem fl_RX9_25 : Cond.fieldLink RX9 25 (TX9 3).1 (TX9 3).2.1 (TX9 3).2.2.1 ∈ lw_good := memg 237 rfl rfl
set_option maxRecDepth 100000 in
theorem fl_RX9_29 : Cond.fieldLink RX9 29 (TX9 4).1 (TX9 4).2.1 (TX9 4).2.2.1 ∈ lw_good := memg 238 rfl rfl
set_option maxRecDepth 100000 in
theorem fl_RX9_32 : Cond.fieldLink RX9 32 (TX9 5).1 (TX9 5).2.1 (TX9 5).2.2.1 ∈ lw_good := memg 239 rfl rfl
set_option maxRecDepth 100000 in
theorem cl_RX0_48 : Cond.classLink RX0 48 RX5 ∈ lw_good := memg 253 rfl rfl
set_option maxRecDepth 100000 in
theorem mn_RX0_50 : Cond.methodLinkNest RX0 50 mX5_init.1 "RodBeam" ∈ lw_nest := memn 254 rfl rfl
set_option maxRecDepth 100000 in
theorem mn_RX0_64 : Cond.methodLinkNest RX0 64 mX7_init.1 "RodBeam" ∈ lw_nest := memn 256 rfl rfl
set_option maxRecDepth 100000 in
theorem ml_RX7_3 : Cond.methodLink RX7 3 objectInit ∈ lw_good := memg 259 rfl rfl
set_option maxRecDepth 100000 in
theorem fl_RX7_9 : Cond.fieldLink RX7 9 (TX7 0).1 (TX7 0).2.1 (TX7 0).2.2.1 ∈ lw_good := memg 260 rfl rfl
set_option maxRecDepth 100000 in
theorem fl_RX0_65 : Cond.fieldLink RX0 65 (TX7 0).1 (TX7 0).2.1 (TX7 0).2.2.1 ∈ lw_good := memg 261 rfl rfl
set_option maxRecDepth 100000 in
theorem fl_RX11_203 : Cond.fieldLink RX11 203 (TX7 0).1 (TX7 0).2.1 (TX7 0).2.2.1 ∈ lw_good := memg 262 rfl rfl
set_option maxRecDepth 100000 in
theorem fl_RX7_15 : Cond.fieldLink RX7 15 (TX7 1).1 (TX7 1).2.1 (TX7 1).2.2.1 ∈ lw_good := memg 263 rfl rfl
set_option maxRecDepth 100000 in
theorem fl_RX0_68 : Cond.fieldLink RX0 68 (TX7 1).1 (TX7 1).2.1 (TX7 1).2.2.1 ∈ lw_good := memg 264 rfl rfl
set_option maxRecDepth 100000 in
theorem fl_RX7_18 : Cond.fieldLink RX7 18 (TX7 2).1 (TX7 2).2.1 (TX7 2).2.2.1 ∈ lw_good := memg 265 rfl rfl
set_option maxRecDepth 100000 in
theorem fl_RX0_71 : Cond.fieldLink RX0 71 (TX7 2).1 (TX7 2).2.1 (TX7 2).2.2.1 ∈ lw_good := memg 266 rfl rfl
set_option maxRecDepth 100000 in
theorem fl_RX11_206 : Cond.fieldLink RX11 206 (TX7 2).1 (TX7 2).2.1 (TX7 2).2.2.1 ∈ lw_good := memg 267 rfl rfl
set_option maxRecDepth 100000 in
theorem fl_RX7_21 : Cond.fieldLink RX7 21 (TX7 3).1 (TX7 3).2.1 (TX7 3).2.2.1 ∈ lw_good := memg 268 rfl rfl
set_option maxRecDepth 100000 in
theorem fl_RX0_86 : Cond.fieldLink RX0 86 (TX7 3).1 (TX7 3).2.1 (TX7 3).2.2.1 ∈ lw_good := memg 269 rfl rfl
set_option maxRecDepth 100000 in
theorem fl_RX7_25 : Cond.fieldLink RX7 25 (TX7 4).1 (TX7 4).2.1 (TX7 4).2.2.1 ∈ lw_good := memg 270 rfl rfl
set_option maxRecDepth 100000 in
theorem fl_RX0_9 : Cond.fieldLink RX0 9 (TX0 0).1 (TX0 0).2.1 (TX0 0).2.2.1 ∈ lw_good := memg 282 rfl rfl
set_option maxRecDepth 100000 in
theorem fl_RX11_188 : Cond.fieldLink RX11 188 (TX0 0).1 (TX0 0).2.1 (TX0 0).2.2.1 ∈ lw_good := memg 283 rfl rfl
set_option maxRecDepth 100000 in
theorem fl_RX0_17 : Cond.fieldLink RX0 17 (TX0 1).1 (TX0 1).2.1 (TX0 1).2.2.1 ∈ lw_good := memg 284 rfl rfl
set_option maxRecDepth 100000 in
theorem fl_RX11_199 : Cond.fieldLink RX11 199 (TX0 1).1 (TX0 1).2.1 (TX0 1).2.2.1 ∈ lw_good := memg 285 rfl rfl
set_option maxRecDepth 100000 in
theorem fl_RX0_21 : Cond.fieldLink RX0 21 (TX0 2).1 (TX0 2).2.1 (TX0 2).2.2.1 ∈ lw_good := memg 286 rfl rfl
set_option maxRecDepth 100000 in
theorem fl_RX11_192 : Cond.fieldLink RX11 192 (TX0 2).1 (TX0 2).2.1 (TX0 2).2.2.1 ∈ lw_good := memg 287 rfl rfl
set_option maxRecDepth 100000 in
theorem fl_RX0_28 : Cond.fieldLink RX0 28 (TX0 3).1 (TX0 3).2.1 (TX0 3).2.2.1 ∈ lw_good := memg 288 rfl rfl
set_option maxRecDepth 100000 in
theorem fl_RX11_219 : Cond.fieldLink RX11 219 (TX0 3).1 (TX0 3).2.1 (TX0 3).2.2.1 ∈ lw_good := memg 289 rfl rfl
set_option maxRecDepth 100000 in
theorem fl_RX0_32 : Cond.fieldLink RX0 32 (TX0 4).1 (TX0 4).2.1 (TX0 4).2.2.1 ∈ lw_good := memg 290 rfl rfl
set_option maxRecDepth 100000 in
theorem fl_RX11_231 : Cond.fieldLink RX11 231 (TX0 4).1 (TX0 4).2.1 (TX0 4).2.2.1 ∈ lw_good := memg 291 rfl rfl
set_option maxRecDepth 100000 in
theorem fl_RX0_35 : Cond.fieldLink RX0 35 (TX0 5).1 (TX0 5).2.1 (TX0 5).2.2.1 ∈ lw_good := memg 292 rfl rfl
set_option maxRecDepth 100000 in
theorem fl_RX11_234 : Cond.fieldLink RX11 234 (TX0 5).1 (TX0 5).2.1 (TX0 5).2.2.1 ∈ lw_good := memg 293 rfl rfl
set_option maxRecDepth 100000 in
theorem fl_RX0_38 : Cond.fieldLink RX0 38 (TX0 6).1 (TX0 6).2.1 (TX0 6).2.2.1 ∈ lw_good := memg 294 rfl rfl
set_option maxRecDepth 100000 in
theorem fl_RX11_237 : Cond.fieldLink RX11 237 (TX0 6).1 (TX0 6).2.1 (TX0 6).2.2.1 ∈ lw_good := memg 295 rfl rfl
set_option maxRecDepth 100000 in
theorem fl_RX0_44 : Cond.fieldLink RX0 44 (TX0 7).1 (TX0 7).2.1 (TX0 7).2.2.1 ∈ lw_good := memg 296 rfl rfl
set_option maxRecDepth 100000 in
theorem fl_RX0_51 : Cond.fieldLink RX0 51 (TX0 8).1 (TX0 8).2.1 (TX0 8).2.2.1 ∈ lw_good := memg 297 rfl rfl
set_option maxRecDepth 100000 in
theorem fl_RX0_55 : Cond.fieldLink RX0 55 (TX0 9).1 (TX0 9).2.1 (TX0 9).2.2.1 ∈ lw_good := memg 298 rfl rfl
set_option maxRecDepth 100000 in
theorem fl_RX0_58 : Cond.fieldLink RX0 58 (TX0 10).1 (TX0 10).2.1 (TX0 10).2.2.1 ∈ lw_good := memg 299 rfl rfl
set_option maxRecDepth 100000 in
theorem fl_RX0_61 : Cond.fieldLink RX0 61 (TX0 11).1 (TX0 11).2.1 (TX0 11).2.2.1 ∈ lw_good := memg 300 rfl rfl
set_option maxRecDepth 100000 in
theorem cl_RX11_47 : Cond.classLink RX11 47 RX9 ∈ lw_good := memg 326 rfl rfl
set_option maxRecDepth 100000 in
theorem mn_RX11_49 : Cond.methodLinkNest RX11 49 mX9_init.1 "RodBeam" ∈ lw_nest := memn 327 rfl rfl
set_option maxRecDepth 100000 in
theorem cl_RX11_54 : Cond.classLink RX11 54 RX1 ∈ lw_good := memg 328 rfl rfl
set_option maxRecDepth 100000 in
theorem mn_RX11_56 : Cond.methodLinkNest RX11 56 mX1_init.1 "RodBeam" ∈ lw_nest := memn 330 rfl rfl
set_option maxRecDepth 100000 in
theorem ml_RX1_3 : Cond.methodLink RX1 3 objectInit ∈ lw_good := memg 333 rfl rfl
set_option maxRecDepth 100000 in
theorem cl_RX1_9 : Cond.classLink RX1 9 RX9 ∈ lw_good := memg 334 rfl rfl
set_option maxRecDepth 100000 in
theorem mn_RX1_11 : Cond.methodLinkNest RX1 11 mX9_init.1 "RodBeam" ∈ lw_nest := memn 335 rfl rfl
set_option maxRecDepth 100000 in
theorem fl_RX1_12 : Cond.fieldLink RX1 12 (TX1 0).1 (TX1 0).2.1 (TX1 0).2.2.1 ∈ lw_good := memg 336 rfl rfl
set_option maxRecDepth 100000 in
theorem fl_RX1_18 : Cond.fieldLink RX1 18 (TX1 1).1 (TX1 1).2.1 (TX1 1).2.2.1 ∈ lw_good := memg 337 rfl rfl
set_option maxRecDepth 100000 in
theorem fl_RX1_22 : Cond.fieldLink RX1 22 (TX1 2).1 (TX1 2).2.1 (TX1 2).2.2.1 ∈ lw_good := memg 338 rfl rfl
set_option maxRecDepth 100000 in
theorem fl_RX1_26 : Cond.fieldLink RX1 26 (TX1 3).1 (TX1 3).2.1 (TX1 3).2.2.1 ∈ lw_good := memg 339 rfl rfl
set_option maxRecDepth 100000 in
theorem fl_RX1_29 : Cond.fieldLink RX1 29 (TX1 4).1 (TX1 4).2.1 (TX1 4).2.2.1 ∈ lw_good := memg 340 rfl rfl
set_option maxRecDepth 100000 in
theorem fl_RX1_33 : Cond.fieldLink RX1 33 (TX1 5).1 (TX1 5).2.1 (TX1 5).2.2.1 ∈ lw_good := memg 341 rfl rfl
set_option maxRecDepth 100000 in
theorem fl_RX1_36 : Cond.fieldLink RX1 36 (TX1 6).1 (TX1 6).2.1 (TX1 6).2.2.1 ∈ lw_good := memg 342 rfl rfl
set_option maxRecDepth 100000 in
theorem fl_RX1_39 : Cond.fieldLink RX1 39 (TX1 7).1 (TX1 7).2.1 (TX1 7).2.2.1 ∈ lw_good := memg 343 rfl rfl
set_option maxRecDepth 100000 in
theorem ml_RX11_61 : Cond.methodLink RX11 61 mX4_init.1 ∈ lw_good := memg 362 rfl rfl
set_option maxRecDepth 100000 in
theorem ml_RX4_3 : Cond.methodLink RX4 3 objectInit ∈ lw_good := memg 365 rfl rfl
set_option maxRecDepth 100000 in
theorem ml_RX4_50 : Cond.methodLink RX4 50 mX4_begin.1 ∈ lw_good := memg 366 rfl rfl
set_option maxRecDepth 100000 in
theorem ml_RX4_66 : Cond.methodLink RX4 66 mX4_findEdges.1 ∈ lw_good := memg 370 rfl rfl
set_option maxRecDepth 100000 in
theorem ml_RX4_69 : Cond.methodLink RX4 69 mX4_area.1 ∈ lw_good := memg 374 rfl rfl
set_option maxRecDepth 100000 in
theorem ml_RX4_79 : Cond.methodLink RX4 79 mX4_isEdge.1 ∈ lw_good := memg 378 rfl rfl
set_option maxRecDepth 100000 in
theorem ml_RX4_83 : Cond.methodLink RX4 83 mX4_widthAbove.1 ∈ lw_good := memg 382 rfl rfl
set_option maxRecDepth 100000 in
theorem ml_RX4_87 : Cond.methodLink RX4 87 mX4_placeRods.1 ∈ lw_good := memg 386 rfl rfl
set_option maxRecDepth 100000 in
theorem fl_RX4_54 : Cond.fieldLink RX4 54 (TX4 0).1 (TX4 0).2.1 (TX4 0).2.2.1 ∈ lw_good := memg 390 rfl rfl
set_option maxRecDepth 100000 in
theorem fl_RX11_116 : Cond.fieldLink RX11 116 (TX4 0).1 (TX4 0).2.1 (TX4 0).2.2.1 ∈ lw_good := memg 391 rfl rfl
set_option maxRecDepth 100000 in
theorem fl_RX4_57 : Cond.fieldLink RX4 57 (TX4 1).1 (TX4 1).2.1 (TX4 1).2.2.1 ∈ lw_good := memg 392 rfl rfl
set_option maxRecDepth 100000 in
theorem fl_RX9_51 : Cond.fieldLink RX9 51 (TX4 1).1 (TX4 1).2.1 (TX4 1).2.2.1 ∈ lw_good := memg 393 rfl rfl
set_option maxRecDepth 100000 in
theorem fl_RX11_119 : Cond.fieldLink RX11 119 (TX4 1).1 (TX4 1).2.1 (TX4 1).2.2.1 ∈ lw_good := memg 394 rfl rfl
set_option maxRecDepth 100000 in
theorem fl_RX9_54 : Cond.fieldLink RX9 54 (TX4 2).1 (TX4 2).2.1 (TX4 2).2.2.1 ∈ lw_good := memg 395 rfl rfl
set_option maxRecDepth 100000 in
theorem fl_RX4_73 : Cond.fieldLink RX4 73 (TX4 2).1 (TX4 2).2.1 (TX4 2).2.2.1 ∈ lw_good := memg 396 rfl rfl
set_option maxRecDepth 100000 in
theorem fl_RX11_126 : Cond.fieldLink RX11 126 (TX4 2).1 (TX4 2).2.1 (TX4 2).2.2.1 ∈ lw_good := memg 397 rfl rfl
set_option maxRecDepth 100000 in
theorem fl_RX4_60 : Cond.fieldLink RX4 60 (TX4 3).1 (TX4 3).2.1 (TX4 3).2.2.1 ∈ lw_good := memg 398 rfl rfl
set_option maxRecDepth 100000 in
theorem fl_RX11_92 : Cond.fieldLink RX11 92 (TX4 3).1 (TX4 3).2.1 (TX4 3).2.2.1 ∈ lw_good := memg 399 rfl rfl
set_option maxRecDepth 100000 in
theorem fl_RX4_9 : Cond.fieldLink RX4 9 (TX4 4).1 (TX4 4).2.1 (TX4 4).2.2.1 ∈ lw_good := memg 400 rfl rfl
set_option maxRecDepth 100000 in
theorem fl_RX4_15 : Cond.fieldLink RX4 15 (TX4 5).1 (TX4 5).2.1 (TX4 5).2.2.1 ∈ lw_good := memg 401 rfl rfl
set_option maxRecDepth 100000 in
theorem fl_RX4_18 : Cond.fieldLink RX4 18 (TX4 6).1 (TX4 6).2.1 (TX4 6).2.2.1 ∈ lw_good := memg 402 rfl rfl
set_option maxRecDepth 100000 in
theorem fl_RX4_63 : Cond.fieldLink RX4 63 (TX4 7).1 (TX4 7).2.1 (TX4 7).2.2.1 ∈ lw_good := memg 403 rfl rfl
set_option maxRecDepth 100000 in
theorem fl_RX9_42 : Cond.fieldLink RX9 42 (TX4 7).1 (TX4 7).2.1 (TX4 7).2.2.1 ∈ lw_good := memg 404 rfl rfl
set_option maxRecDepth 100000 in
theorem fl_RX11_102 : Cond.fieldLink RX11 102 (TX4 7).1 (TX4 7).2.1 (TX4 7).2.2.1 ∈ lw_good := memg 405 rfl rfl
set_option maxRecDepth 100000 in
theorem fl_RX1_105 : Cond.fieldLink RX1 105 (TX4 7).1 (TX4 7).2.1 (TX4 7).2.2.1 ∈ lw_good := memg 406 rfl rfl
set_option maxRecDepth 100000 in
theorem fl_RX4_21 : Cond.fieldLink RX4 21 (TX4 8).1 (TX4 8).2.1 (TX4 8).2.2.1 ∈ lw_good := memg 407 rfl rfl
set_option maxRecDepth 100000 in
theorem fl_RX9_48 : Cond.fieldLink RX9 48 (TX4 8).1 (TX4 8).2.1 (TX4 8).2.2.1 ∈ lw_good := memg 408 rfl rfl
set_option maxRecDepth 100000 in
theorem fl_RX4_24 : Cond.fieldLink RX4 24 (TX4 9).1 (TX4 9).2.1 (TX4 9).2.2.1 ∈ lw_good := memg 409 rfl rfl
set_option maxRecDepth 100000 in
theorem fl_RX0_117 : Cond.fieldLink RX0 117 (TX4 9).1 (TX4 9).2.1 (TX4 9).2.2.1 ∈ lw_good := memg 410 rfl rfl
set_option maxRecDepth 100000 in
theorem fl_RX11_113 : Cond.fieldLink RX11 113 (TX4 9).1 (TX4 9).2.1 (TX4 9).2.2.1 ∈ lw_good := memg 411 rfl rfl
set_option maxRecDepth 100000 in
theorem fl_RX9_72 : Cond.fieldLink RX9 72 (TX4 10).1 (TX4 10).2.1 (TX4 10).2.2.1 ∈ lw_good := memg 412 rfl rfl
set_option maxRecDepth 100000 in
theorem fl_RX4_76 : Cond.fieldLink RX4 76 (TX4 10).1 (TX4 10).2.1 (TX4 10).2.2.1 ∈ lw_good := memg 413 rfl rfl
set_option maxRecDepth 100000 in
theorem fl_RX4_27 : Cond.fieldLink RX4 27 (TX4 11).1 (TX4 11).2.1 (TX4 11).2.2.1 ∈ lw_good := memg 414 rfl rfl
set_option maxRecDepth 100000 in
theorem fl_RX9_75 : Cond.fieldLink RX9 75 (TX4 11).1 (TX4 11).2.1 (TX4 11).2.2.1 ∈ lw_good := memg 415 rfl rfl
set_option maxRecDepth 100000 in
theorem fl_RX4_30 : Cond.fieldLink RX4 30 (TX4 12).1 (TX4 12).2.1 (TX4 12).2.2.1 ∈ lw_good := memg 416 rfl rfl
set_option maxRecDepth 100000 in
theorem fl_RX9_84 : Cond.fieldLink RX9 84 (TX4 12).1 (TX4 12).2.1 (TX4 12).2.2.1 ∈ lw_good := memg 417 rfl rfl
set_option maxRecDepth 100000 in
theorem fl_RX4_33 : Cond.fieldLink RX4 33 (TX4 13).1 (TX4 13).2.1 (TX4 13).2.2.1 ∈ lw_good := memg 418 rfl rfl
set_option maxRecDepth 100000 in
theorem fl_RX9_45 : Cond.fieldLink RX9 45 (TX4 13).1 (TX4 13).2.1 (TX4 13).2.2.1 ∈ lw_good := memg 419 rfl rfl
set_option maxRecDepth 100000 in
theorem fl_RX4_36 : Cond.fieldLink RX4 36 (TX4 14).1 (TX4 14).2.1 (TX4 14).2.2.1 ∈ lw_good := memg 420 rfl rfl
set_option maxRecDepth 100000 in
theorem fl_RX1_42 : Cond.fieldLink RX1 42 (TX4 14).1 (TX4 14).2.1 (TX4 14).2.2.1 ∈ lw_good := memg 421 rfl rfl
set_option maxRecDepth 100000 in
theorem fl_RX11_265 : Cond.fieldLink RX11 265 (TX4 14).1 (TX4 14).2.1 (TX4 14).2.2.1 ∈ lw_good := memg 422 rfl rfl
set_option maxRecDepth 100000 in
theorem fl_RX4_40 : Cond.fieldLink RX4 40 (TX4 15).1 (TX4 15).2.1 (TX4 15).2.2.1 ∈ lw_good := memg 423 rfl rfl
set_option maxRecDepth 100000 in
theorem fl_RX1_48 : Cond.fieldLink RX1 48 (TX4 15).1 (TX4 15).2.1 (TX4 15).2.2.1 ∈ lw_good := memg 424 rfl rfl
set_option maxRecDepth 100000 in
theorem fl_RX4_43 : Cond.fieldLink RX4 43 (TX4 16).1 (TX4 16).2.1 (TX4 16).2.2.1 ∈ lw_good := memg 425 rfl rfl
set_option maxRecDepth 100000 in
theorem fl_RX1_67 : Cond.fieldLink RX1 67 (TX4 16).1 (TX4 16).2.1 (TX4 16).2.2.1 ∈ lw_good := memg 426 rfl rfl
set_option maxRecDepth 100000 in
theorem fl_RX11_178 : Cond.fieldLink RX11 178 (TX4 16).1 (TX4 16).2.1 (TX4 16).2.2.1 ∈ lw_good := memg 427 rfl rfl
set_option maxRecDepth 100000 in
theorem fl_RX4_47 : Cond.fieldLink RX4 47 (TX4 17).1 (TX4 17).2.1 (TX4 17).2.2.1 ∈ lw_good := memg 428 rfl rfl
set_option maxRecDepth 100000 in
theorem fl_RX1_128 : Cond.fieldLink RX1 128 (TX4 17).1 (TX4 17).2.1 (TX4 17).2.2.1 ∈ lw_good := memg 429 rfl rfl
set_option maxRecDepth 100000 in
theorem fl_RX11_181 : Cond.fieldLink RX11 181 (TX4 17).1 (TX4 17).2.1 (TX4 17).2.2.1 ∈ lw_good := memg 430 rfl rfl
set_option maxRecDepth 100000 in
theorem fl_RX11_9 : Cond.fieldLink RX11 9 (TX11 0).1 (TX11 0).2.1 (TX11 0).2.2.1 ∈ lw_good := memg 468 rfl rfl
set_option maxRecDepth 100000 in
theorem fl_RX11_16 : Cond.fieldLink RX11 16 (TX11 1).1 (TX11 1).2.1 (TX11 1).2.2.1 ∈ lw_good := memg 469 rfl rfl
set_option maxRecDepth 100000 in
theorem fl_RX11_22 : Cond.fieldLink RX11 22 (TX11 2).1 (TX11 2).2.1 (TX11 2).2.2.1 ∈ lw_good := memg 470 rfl rfl
set_option maxRecDepth 100000 in
theorem fl_RX11_29 : Cond.fieldLink RX11 29 (TX11 3).1 (TX11 3).2.1 (TX11 3).2.2.1 ∈ lw_good := memg 471 rfl rfl
set_option maxRecDepth 100000 in
theorem fl_RX11_36 : Cond.fieldLink RX11 36 (TX11 4).1 (TX11 4).2.1 (TX11 4).2.2.1 ∈ lw_good := memg 472 rfl rfl
set_option maxRecDepth 100000 in
theorem fl_RX11_43 : Cond.fieldLink RX11 43 (TX11 5).1 (TX11 5).2.1 (TX11 5).2.2.1 ∈ lw_good := memg 473 rfl rfl
set_option maxRecDepth 100000 in
theorem fl_RX11_50 : Cond.fieldLink RX11 50 (TX11 6).1 (TX11 6).2.1 (TX11 6).2.2.1 ∈ lw_good := memg 474 rfl rfl
set_option maxRecDepth 100000 in
theorem fl_RX11_57 : Cond.fieldLink RX11 57 (TX11 7).1 (TX11 7).2.1 (TX11 7).2.2.1 ∈ lw_good := memg 475 rfl rfl
set_option maxRecDepth 100000 in
theorem ml_RL_13 : Cond.methodLink RL 13 mX11_status.1 ∈ lw_good := memg 493 rfl rfl
set_option maxRecDepth 100000 in
theorem ml_RL_18 : Cond.methodLink RL 18 mX11_out.1 ∈ lw_good := memg 497 rfl rfl
set_option maxRecDepth 100000 in
theorem ml_RL_23 : Cond.methodLink RL 23 mX11_stone.1 ∈ lw_good := memg 501 rfl rfl
set_option maxRecDepth 100000 in
theorem ml_RX11_69 : Cond.methodLink RX11 69 mX11_isSection.1 ∈ lw_good := memg 505 rfl rfl
set_option maxRecDepth 100000 in
theorem ml_RX11_76 : Cond.methodLink RX11 76 mX11_isFromTo.1 ∈ lw_good := memg 509 rfl rfl
set_option maxRecDepth 100000 in
theorem ml_RX11_73 : Cond.methodLink RX11 73 mX11_deny.1 ∈ lw_good := memg 512 rfl rfl
set_option maxRecDepth 100000 in
theorem ml_RX11_80 : Cond.methodLink RX11 80 mX4_begin.1 ∈ lw_good := memg 516 rfl rfl
set_option maxRecDepth 100000 in
theorem ml_RX11_84 : Cond.methodLink RX11 84 mX11_allow.1 ∈ lw_good := memg 517 rfl rfl
set_option maxRecDepth 100000 in
theorem ml_RL_28 : Cond.methodLink RL 28 mX11_band.1 ∈ lw_good := memg 521 rfl rfl
set_option maxRecDepth 100000 in
theorem ml_RX11_88 : Cond.methodLink RX11 88 mX11_refuse.1 ∈ lw_good := memg 525 rfl rfl
set_option maxRecDepth 100000 in
theorem ml_RX11_95 : Cond.methodLink RX11 95 mX4_addBand.1 ∈ lw_good := memg 529 rfl rfl
set_option maxRecDepth 100000 in
theorem ml_RX11_99 : Cond.methodLink RX11 99 mX11_give.1 ∈ lw_good := memg 533 rfl rfl
set_option maxRecDepth 100000 in
theorem ml_RL_33 : Cond.methodLink RL 33 mX11_rod.1 ∈ lw_good := memg 537 rfl rfl
set_option maxRecDepth 100000 in
theorem ml_RX11_105 : Cond.methodLink RX11 105 mX4_addRod.1 ∈ lw_good := memg 541 rfl rfl
set_option maxRecDepth 100000 in
theorem ml_RL_38 : Cond.methodLink RL 38 mX11_change.1 ∈ lw_good := memg 545 rfl rfl
set_option maxRecDepth 100000 in
theorem ml_RX11_109 : Cond.methodLink RX11 109 mX11_isRod.1 ∈ lw_good := memg 549 rfl rfl
set_option maxRecDepth 100000 in
theorem ml_RL_42 : Cond.methodLink RL 42 mX11_told.1 ∈ lw_good := memg 553 rfl rfl
set_option maxRecDepth 100000 in
theorem ml_RX11_122 : Cond.methodLink RX11 122 mX4_area.1 ∈ lw_good := memg 557 rfl rfl
set_option maxRecDepth 100000 in
theorem ml_RX11_129 : Cond.methodLink RX11 129 mX4_rodsTogether.1 ∈ lw_good := memg 558 rfl rfl
set_option maxRecDepth 100000 in
theorem ml_RL_47 : Cond.methodLink RL 47 mX11_strength.1 ∈ lw_good := memg 562 rfl rfl
set_option maxRecDepth 100000 in
theorem ml_RL_51 : Cond.methodLink RL 51 mX11_width.1 ∈ lw_good := memg 566 rfl rfl
set_option maxRecDepth 100000 in
theorem ml_RX11_132 : Cond.methodLink RX11 132 mX4_widthAbove.1 ∈ lw_good := memg 570 rfl rfl
set_option maxRecDepth 100000 in
theorem ml_RL_55 : Cond.methodLink RL 55 mX11_bend.1 ∈ lw_good := memg 571 rfl rfl
set_option maxRecDepth 100000 in
theorem ml_RX11_135 : Cond.methodLink RX11 135 mX11_walkTo.1 ∈ lw_good := memg 575 rfl rfl
set_option maxRecDepth 100000 in
theorem ml_RX11_150 : Cond.methodLink RX11 150 mX11_isNear.1 ∈ lw_good := memg 579 rfl rfl
set_option maxRecDepth 100000 in
theorem kc_RX11_248 : Cond.constant RX11 248 (Int32.ofInt (-1000000)) ∈ lw_good := memg 582 rfl rfl
set_option maxRecDepth 100000 in
theorem kc_RX11_249 : Cond.constant RX11 249 (Int32.ofInt (1000000)) ∈ lw_good := memg 583 rfl rfl
set_option maxRecDepth 100000 in
theorem ml_RX11_250 : Cond.methodLink RX11 250 mX9_arm.1 ∈ lw_good := memg 584 rfl rfl
set_option maxRecDepth 100000 in
theorem ml_RX9_36 : Cond.methodLink RX9 36 mJ7_fill_53178.1 ∈ lw_good := memg 588 rfl rfl
set_option maxRecDepth 100000 in
theorem kl_RX9_57 : Cond.constantLong RX9 57 (Int64.ofInt (2)) ∈ lw_good := memg 591 rfl rfl
set_option maxRecDepth 100000 in
theorem ml_RX11_254 : Cond.methodLink RX11 254 mX9_reaches.1 ∈ lw_good := memg 592 rfl rfl
set_option maxRecDepth 100000 in
theorem ml_RX11_257 : Cond.methodLink RX11 257 mX9_fill.1 ∈ lw_good := memg 596 rfl rfl
set_option maxRecDepth 100000 in
theorem ml_RX9_78 : Cond.methodLink RX9 78 mJ9_min_f86c9.1 ∈ lw_good := memg 600 rfl rfl
set_option maxRecDepth 100000 in
theorem ml_RX9_87 : Cond.methodLink RX9 87 mJ9_min_7cf53.1 ∈ lw_good := memg 603 rfl rfl
set_option maxRecDepth 100000 in
theorem ml_RX9_90 : Cond.methodLink RX9 90 mJ9_abs_0f7a4.1 ∈ lw_good := memg 606 rfl rfl
set_option maxRecDepth 100000 in
theorem ml_RX11_143 : Cond.methodLink RX11 143 mX11_giveShare.1 ∈ lw_good := memg 609 rfl rfl
set_option maxRecDepth 100000 in
theorem ml_RX11_240 : Cond.methodLink RX11 240 mX8_writeShare.1 ∈ lw_good := memg 613 rfl rfl
set_option maxRecDepth 100000 in
theorem ml_RX8_26 : Cond.methodLink RX8 26 mX5_shorten.1 ∈ lw_good := memg 617 rfl rfl
set_option maxRecDepth 100000 in
theorem mn_RX5_16 : Cond.methodLinkNest RX5 16 mX11_commonDivisor.1 "RodBeam" ∈ lw_nest := memn 621 rfl rfl
set_option maxRecDepth 100000 in
theorem ml_RX11_272 : Cond.methodLink RX11 272 mJ9_abs_067f4.1 ∈ lw_good := memg 624 rfl rfl
set_option maxRecDepth 100000 in
theorem ml_RX8_35 : Cond.methodLink RX8 35 mJ9_abs_067f4.1 ∈ lw_good := memg 627 rfl rfl
set_option maxRecDepth 100000 in
theorem ml_RX8_44 : Cond.methodLink RX8 44 mX3_put.1 ∈ lw_good := memg 628 rfl rfl
set_option maxRecDepth 100000 in
theorem ml_RX3_28 : Cond.methodLink RX3 28 mX10_put.1 ∈ lw_good := memg 632 rfl rfl
set_option maxRecDepth 100000 in
theorem kl_RX10_13 : Cond.constantLong RX10 13 (Int64.ofInt (1000000000)) ∈ lw_good := memg 636 rfl rfl
set_option maxRecDepth 100000 in
theorem ml_RX8_48 : Cond.methodLink RX8 48 mX8_writeRatio.1 ∈ lw_good := memg 637 rfl rfl
set_option maxRecDepth 100000 in
theorem ml_RX8_52 : Cond.methodLink RX8 52 mX8_write.1 ∈ lw_good := memg 641 rfl rfl
set_option maxRecDepth 100000 in
theorem ml_RX8_59 : Cond.methodLink RX8 59 mX8_writeWhole.1 ∈ lw_good := memg 645 rfl rfl
set_option maxRecDepth 100000 in
theorem kl_RX8_65 : Cond.constantLong RX8 65 (Int64.ofInt (100000000)) ∈ lw_good := memg 649 rfl rfl
set_option maxRecDepth 100000 in
theorem kl_RX8_71 : Cond.constantLong RX8 71 (Int64.ofInt (10)) ∈ lw_good := memg 650 rfl rfl
set_option maxRecDepth 100000 in
theorem kl_RX8_73 : Cond.constantLong RX8 73 (Int64.ofInt (48)) ∈ lw_good := memg 651 rfl rfl
set_option maxRecDepth 100000 in
theorem ml_RL_60 : Cond.methodLink RL 60 mX11_cut.1 ∈ lw_good := memg 652 rfl rfl
set_option maxRecDepth 100000 in
theorem ml_RL_64 : Cond.methodLink RL 64 mX11_borne.1 ∈ lw_good := memg 656 rfl rfl
set_option maxRecDepth 100000 in
theorem ml_RX11_153 : Cond.methodLink RX11 153 mX11_bears.1 ∈ lw_good := memg 660 rfl rfl
set_option maxRecDepth 100000 in
theorem ml_RX11_261 : Cond.methodLink RX11 261 mX9_bearsOn.1 ∈ lw_good := memg 664 rfl rfl
set_option maxRecDepth 100000 in
theorem ml_RX9_59 : Cond.methodLink RX9 59 mX9_reaches.1 ∈ lw_good := memg 668 rfl rfl
set_option maxRecDepth 100000 in
theorem ml_RX9_63 : Cond.methodLink RX9 63 mX9_fill.1 ∈ lw_good := memg 669 rfl rfl
set_option maxRecDepth 100000 in
theorem ml_RL_68 : Cond.methodLink RL 68 mX11_pair.1 ∈ lw_good := memg 670 rfl rfl
set_option maxRecDepth 100000 in
theorem ml_RX11_160 : Cond.methodLink RX11 160 mX11_forgetBests.1 ∈ lw_good := memg 674 rfl rfl
set_option maxRecDepth 100000 in
theorem ml_RX11_163 : Cond.methodLink RX11 163 mX2_add.1 ∈ lw_good := memg 678 rfl rfl
set_option maxRecDepth 100000 in
theorem ml_RL_72 : Cond.methodLink RL 72 mX11_clear.1 ∈ lw_good := memg 682 rfl rfl
set_option maxRecDepth 100000 in
theorem ml_RL_77 : Cond.methodLink RL 77 mX11_safe.1 ∈ lw_good := memg 686 rfl rfl
set_option maxRecDepth 100000 in
theorem ml_RL_81 : Cond.methodLink RL 81 mX11_size.1 ∈ lw_good := memg 690 rfl rfl
set_option maxRecDepth 100000 in
theorem ml_RX11_173 : Cond.methodLink RX11 173 mX6_add.1 ∈ lw_good := memg 694 rfl rfl
set_option maxRecDepth 100000 in
theorem ml_RL_85 : Cond.methodLink RL 85 mX11_best.1 ∈ lw_good := memg 698 rfl rfl
set_option maxRecDepth 100000 in
theorem ml_RX11_174 : Cond.methodLink RX11 174 mX1_findBest.1 ∈ lw_good := memg 702 rfl rfl
set_option maxRecDepth 100000 in
theorem ml_RX1_51 : Cond.methodLink RX1 51 mJ7_fill_53178.1 ∈ lw_good := memg 706 rfl rfl
set_option maxRecDepth 100000 in
theorem ml_RX1_57 : Cond.methodLink RX1 57 mX1_listAsks.1 ∈ lw_good := memg 707 rfl rfl
set_option maxRecDepth 100000 in
theorem ml_RX1_78 : Cond.methodLink RX1 78 mX9_arm.1 ∈ lw_good := memg 711 rfl rfl
set_option maxRecDepth 100000 in
theorem ml_RX1_93 : Cond.methodLink RX1 93 mX1_listAsk.1 ∈ lw_good := memg 712 rfl rfl
set_option maxRecDepth 100000 in
theorem ml_RX1_97 : Cond.methodLink RX1 97 mX9_bearsOn.1 ∈ lw_good := memg 716 rfl rfl
set_option maxRecDepth 100000 in
theorem ml_RX1_61 : Cond.methodLink RX1 61 mX6_strongest.1 ∈ lw_good := memg 717 rfl rfl
set_option maxRecDepth 100000 in
theorem ml_RX6_22 : Cond.methodLink RX6 22 mJ9_max_7cf53.1 ∈ lw_good := memg 721 rfl rfl
set_option maxRecDepth 100000 in
theorem kc_RX1_66 : Cond.constant RX1 66 (Int32.ofInt (60001)) ∈ lw_good := memg 724 rfl rfl
set_option maxRecDepth 100000 in
theorem ml_RX1_70 : Cond.methodLink RX1 70 mX1_bearsAll.1 ∈ lw_good := memg 725 rfl rfl
set_option maxRecDepth 100000 in
theorem ml_RX1_101 : Cond.methodLink RX1 101 mX1_putFirst.1 ∈ lw_good := memg 729 rfl rfl
set_option maxRecDepth 100000 in
theorem ml_RX1_74 : Cond.methodLink RX1 74 mX1_choose.1 ∈ lw_good := memg 733 rfl rfl
set_option maxRecDepth 100000 in
theorem ml_RX1_108 : Cond.methodLink RX1 108 mX1_keep.1 ∈ lw_good := memg 737 rfl rfl
set_option maxRecDepth 100000 in
theorem ml_RX1_131 : Cond.methodLink RX1 131 arraycopyName ∈ lw_good := memg 741 rfl rfl
set_option maxRecDepth 100000 in
theorem na_copy : Cond.native arraycopyName ∈ lw_good := memg 743 rfl rfl
set_option maxRecDepth 100000 in
theorem ml_RX1_112 : Cond.methodLink RX1 112 mX1_attempt.1 ∈ lw_good := memg 744 rfl rfl
set_option maxRecDepth 100000 in
theorem ml_RX1_117 : Cond.methodLink RX1 117 mX6_priceOf.1 ∈ lw_good := memg 748 rfl rfl
set_option maxRecDepth 100000 in
theorem ml_RX1_121 : Cond.methodLink RX1 121 mX6_isIdle.1 ∈ lw_good := memg 752 rfl rfl
set_option maxRecDepth 100000 in
theorem ml_RX6_28 : Cond.methodLink RX6 28 mX6_priceOf.1 ∈ lw_good := memg 756 rfl rfl
set_option maxRecDepth 100000 in
theorem ml_RX6_32 : Cond.methodLink RX6 32 mX6_strengthOf.1 ∈ lw_good := memg 757 rfl rfl
set_option maxRecDepth 100000 in
theorem ml_RX1_125 : Cond.methodLink RX1 125 mX6_strengthOf.1 ∈ lw_good := memg 761 rfl rfl
set_option maxRecDepth 100000 in
theorem ml_RL_89 : Cond.methodLink RL 89 mX11_chosen.1 ∈ lw_good := memg 762 rfl rfl
set_option maxRecDepth 100000 in
theorem ml_RL_93 : Cond.methodLink RL 93 mX11_take.1 ∈ lw_good := memg 766 rfl rfl
set_option maxRecDepth 100000 in
theorem ml_RX11_184 : Cond.methodLink RX11 184 mX11_carryOut.1 ∈ lw_good := memg 770 rfl rfl
set_option maxRecDepth 100000 in
theorem ml_RX11_269 : Cond.methodLink RX11 269 mX6_strengthOf.1 ∈ lw_good := memg 774 rfl rfl
set_option maxRecDepth 100000 in
theorem ml_RL_97 : Cond.methodLink RL 97 mX11_span.1 ∈ lw_good := memg 775 rfl rfl
set_option maxRecDepth 100000 in
theorem ml_RX11_189 : Cond.methodLink RX11 189 mX0_addSpan.1 ∈ lw_good := memg 779 rfl rfl
set_option maxRecDepth 100000 in
theorem ml_RL_101 : Cond.methodLink RL 101 mX11_away.1 ∈ lw_good := memg 783 rfl rfl
set_option maxRecDepth 100000 in
theorem ml_RL_105 : Cond.methodLink RL 105 mX11_hold.1 ∈ lw_good := memg 787 rfl rfl
set_option maxRecDepth 100000 in
theorem ml_RL_110 : Cond.methodLink RL 110 mX11_load.1 ∈ lw_good := memg 791 rfl rfl
set_option maxRecDepth 100000 in
theorem ml_RX11_196 : Cond.methodLink RX11 196 mX11_isSpan.1 ∈ lw_good := memg 795 rfl rfl
set_option maxRecDepth 100000 in
theorem ml_RX11_209 : Cond.methodLink RX11 209 mX7_hasLoadAt.1 ∈ lw_good := memg 799 rfl rfl
set_option maxRecDepth 100000 in
theorem ml_RX11_212 : Cond.methodLink RX11 212 mX7_addLoad.1 ∈ lw_good := memg 803 rfl rfl
set_option maxRecDepth 100000 in
theorem ml_RL_114 : Cond.methodLink RL 114 mX11_times.1 ∈ lw_good := memg 807 rfl rfl
set_option maxRecDepth 100000 in
theorem ml_RX11_215 : Cond.methodLink RX11 215 mX0_reckon.1 ∈ lw_good := memg 811 rfl rfl
set_option maxRecDepth 100000 in
theorem ml_RX0_90 : Cond.methodLink RX0 90 mX0_putSag.1 ∈ lw_good := memg 815 rfl rfl
set_option maxRecDepth 100000 in
theorem ml_RX0_122 : Cond.methodLink RX0 122 mX9_arm.1 ∈ lw_good := memg 819 rfl rfl
set_option maxRecDepth 100000 in
theorem ml_RX0_126 : Cond.methodLink RX0 126 mX9_fill.1 ∈ lw_good := memg 820 rfl rfl
set_option maxRecDepth 100000 in
theorem ml_RX0_140 : Cond.methodLink RX0 140 mX5_put.1 ∈ lw_good := memg 821 rfl rfl
set_option maxRecDepth 100000 in
theorem ml_RX0_94 : Cond.methodLink RX0 94 mX0_putSupport.1 ∈ lw_good := memg 825 rfl rfl
set_option maxRecDepth 100000 in
theorem ml_RX0_144 : Cond.methodLink RX0 144 mX0_putHog.1 ∈ lw_good := memg 829 rfl rfl
set_option maxRecDepth 100000 in
theorem ml_RX0_147 : Cond.methodLink RX0 147 mX5_isUnder.1 ∈ lw_good := memg 833 rfl rfl
set_option maxRecDepth 100000 in
theorem ml_RX0_98 : Cond.methodLink RX0 98 mX5_scale.1 ∈ lw_good := memg 837 rfl rfl
set_option maxRecDepth 100000 in
theorem ml_RX5_22 : Cond.methodLink RX5 22 mX5_shorten.1 ∈ lw_good := memg 841 rfl rfl
set_option maxRecDepth 100000 in
theorem ml_RX0_102 : Cond.methodLink RX0 102 mX5_plus.1 ∈ lw_good := memg 842 rfl rfl
set_option maxRecDepth 100000 in
theorem ml_RX0_106 : Cond.methodLink RX0 106 mX3_putSum.1 ∈ lw_good := memg 846 rfl rfl
set_option maxRecDepth 100000 in
theorem mn_RX3_41 : Cond.methodLinkNest RX3 41 mX11_commonDivisor.1 "RodBeam" ∈ lw_nest := memn 850 rfl rfl
set_option maxRecDepth 100000 in
theorem ml_RX3_47 : Cond.methodLink RX3 47 mJ9_max_f86c9.1 ∈ lw_good := memg 851 rfl rfl
set_option maxRecDepth 100000 in
theorem ml_RX3_54 : Cond.methodLink RX3 54 mX10_product.1 ∈ lw_good := memg 854 rfl rfl
set_option maxRecDepth 100000 in
theorem ml_RX10_21 : Cond.methodLink RX10 21 mJ7_fill_d0a16.1 ∈ lw_good := memg 858 rfl rfl
set_option maxRecDepth 100000 in
theorem ml_RX3_58 : Cond.methodLink RX3 58 mX10_plus.1 ∈ lw_good := memg 861 rfl rfl
set_option maxRecDepth 100000 in
theorem ml_RX3_61 : Cond.methodLink RX3 61 mX10_restBy.1 ∈ lw_good := memg 865 rfl rfl
set_option maxRecDepth 100000 in
theorem ml_RX3_65 : Cond.methodLink RX3 65 mX10_divide.1 ∈ lw_good := memg 869 rfl rfl
set_option maxRecDepth 100000 in
theorem ml_RX0_110 : Cond.methodLink RX0 110 mX7_freeTimesLength.1 ∈ lw_good := memg 873 rfl rfl
set_option maxRecDepth 100000 in
theorem ml_RX7_28 : Cond.methodLink RX7 28 mJ9_min_7cf53.1 ∈ lw_good := memg 877 rfl rfl
set_option maxRecDepth 100000 in
theorem ml_RX7_34 : Cond.methodLink RX7 34 mJ9_max_7cf53.1 ∈ lw_good := memg 878 rfl rfl
set_option maxRecDepth 100000 in
theorem ml_RX0_114 : Cond.methodLink RX0 114 mX3_divide.1 ∈ lw_good := memg 879 rfl rfl
set_option maxRecDepth 100000 in
theorem ml_RX3_32 : Cond.methodLink RX3 32 mX10_copy.1 ∈ lw_good := memg 883 rfl rfl
set_option maxRecDepth 100000 in
theorem ml_RX10_15 : Cond.methodLink RX10 15 arraycopyName ∈ lw_good := memg 887 rfl rfl
set_option maxRecDepth 100000 in
theorem ml_RX11_223 : Cond.methodLink RX11 223 mX11_giveRatio.1 ∈ lw_good := memg 888 rfl rfl
set_option maxRecDepth 100000 in
theorem ml_RX11_244 : Cond.methodLink RX11 244 mX8_writeRatio.1 ∈ lw_good := memg 892 rfl rfl
set_option maxRecDepth 100000 in
theorem ml_RL_118 : Cond.methodLink RL 118 mX11_factor.1 ∈ lw_good := memg 893 rfl rfl
set_option maxRecDepth 100000 in
theorem ml_RX11_227 : Cond.methodLink RX11 227 mX0_reckonLeast.1 ∈ lw_good := memg 897 rfl rfl
set_option maxRecDepth 100000 in
theorem ml_RX0_74 : Cond.methodLink RX0 74 mX0_reckon.1 ∈ lw_good := memg 901 rfl rfl
set_option maxRecDepth 100000 in
theorem ml_RX0_78 : Cond.methodLink RX0 78 mX3_isUnder.1 ∈ lw_good := memg 902 rfl rfl
set_option maxRecDepth 100000 in
theorem ml_RX3_68 : Cond.methodLink RX3 68 mX10_isUnder.1 ∈ lw_good := memg 906 rfl rfl
set_option maxRecDepth 100000 in
theorem ml_RX0_82 : Cond.methodLink RX0 82 mX3_copy.1 ∈ lw_good := memg 910 rfl rfl
set_option maxRecDepth 100000 in
theorem ml_RL_122 : Cond.methodLink RL 122 mX11_weakest.1 ∈ lw_good := memg 914 rfl rfl
set_option maxRecDepth 100000 in
theorem cl_RL_10 : Cond.classLink RL 10 RX12 ∈ lw_good := memg 918 rfl rfl
set_option maxRecDepth 100000 in
theorem ml_RL_12 : Cond.methodLink RL 12 mX12_init.1 ∈ lw_good := memg 920 rfl rfl
set_option maxRecDepth 100000 in
theorem ml_RX12_1 : Cond.methodLink RX12 1 objectInit ∈ lw_good := memg 923 rfl rfl
set_option maxRecDepth 100000 in
theorem fl_RX12_89 : Cond.fieldLink RX12 89 (TX12 0).1 (TX12 0).2.1 (TX12 0).2.2.1 ∈ lw_good := memg 924 rfl rfl
set_option maxRecDepth 100000 in
theorem fl_RX12_7 : Cond.fieldLink RX12 7 (TX12 1).1 (TX12 1).2.1 (TX12 1).2.2.1 ∈ lw_good := memg 925 rfl rfl
set_option maxRecDepth 100000 in
theorem fl_RX12_93 : Cond.fieldLink RX12 93 (TX12 2).1 (TX12 2).2.1 (TX12 2).2.2.1 ∈ lw_good := memg 926 rfl rfl
set_option maxRecDepth 100000 in
theorem fl_RX12_13 : Cond.fieldLink RX12 13 (TX12 3).1 (TX12 3).2.1 (TX12 3).2.2.1 ∈ lw_good := memg 927 rfl rfl
set_option maxRecDepth 100000 in
theorem fl_RX12_16 : Cond.fieldLink RX12 16 (TX12 4).1 (TX12 4).2.1 (TX12 4).2.2.1 ∈ lw_good := memg 928 rfl rfl
set_option maxRecDepth 100000 in
theorem fl_RX12_19 : Cond.fieldLink RX12 19 (TX12 5).1 (TX12 5).2.1 (TX12 5).2.2.1 ∈ lw_good := memg 929 rfl rfl
set_option maxRecDepth 100000 in
theorem fl_RX12_135 : Cond.fieldLink RX12 135 (TX12 6).1 (TX12 6).2.1 (TX12 6).2.2.1 ∈ lw_good := memg 930 rfl rfl
set_option maxRecDepth 100000 in
theorem fl_RX12_138 : Cond.fieldLink RX12 138 (TX12 7).1 (TX12 7).2.1 (TX12 7).2.2.1 ∈ lw_good := memg 931 rfl rfl
set_option maxRecDepth 100000 in
theorem fl_RX12_22 : Cond.fieldLink RX12 22 (TX12 8).1 (TX12 8).2.1 (TX12 8).2.2.1 ∈ lw_good := memg 932 rfl rfl
set_option maxRecDepth 100000 in
theorem fl_RX12_160 : Cond.fieldLink RX12 160 (TX12 9).1 (TX12 9).2.1 (TX12 9).2.2.1 ∈ lw_good := memg 933 rfl rfl
set_option maxRecDepth 100000 in
theorem fl_RX12_25 : Cond.fieldLink RX12 25 (TX12 10).1 (TX12 10).2.1 (TX12 10).2.2.1 ∈ lw_good := memg 934 rfl rfl
set_option maxRecDepth 100000 in
theorem fl_RX12_28 : Cond.fieldLink RX12 28 (TX12 11).1 (TX12 11).2.1 (TX12 11).2.2.1 ∈ lw_good := memg 935 rfl rfl
set_option maxRecDepth 100000 in
theorem fl_RX12_31 : Cond.fieldLink RX12 31 (TX12 12).1 (TX12 12).2.1 (TX12 12).2.2.1 ∈ lw_good := memg 936 rfl rfl
set_option maxRecDepth 100000 in
theorem fl_RX12_34 : Cond.fieldLink RX12 34 (TX12 13).1 (TX12 13).2.1 (TX12 13).2.2.1 ∈ lw_good := memg 937 rfl rfl
set_option maxRecDepth 100000 in
theorem fl_RX12_37 : Cond.fieldLink RX12 37 (TX12 14).1 (TX12 14).2.1 (TX12 14).2.2.1 ∈ lw_good := memg 938 rfl rfl
set_option maxRecDepth 100000 in
theorem fl_RX12_40 : Cond.fieldLink RX12 40 (TX12 15).1 (TX12 15).2.1 (TX12 15).2.2.1 ∈ lw_good := memg 939 rfl rfl
set_option maxRecDepth 100000 in
theorem fl_RX12_43 : Cond.fieldLink RX12 43 (TX12 16).1 (TX12 16).2.1 (TX12 16).2.2.1 ∈ lw_good := memg 940 rfl rfl
set_option maxRecDepth 100000 in
theorem fl_RX12_46 : Cond.fieldLink RX12 46 (TX12 17).1 (TX12 17).2.1 (TX12 17).2.2.1 ∈ lw_good := memg 941 rfl rfl
set_option maxRecDepth 100000 in
theorem fl_RX12_49 : Cond.fieldLink RX12 49 (TX12 18).1 (TX12 18).2.1 (TX12 18).2.2.1 ∈ lw_good := memg 942 rfl rfl
set_option maxRecDepth 100000 in
theorem fl_RX12_211 : Cond.fieldLink RX12 211 (TX12 19).1 (TX12 19).2.1 (TX12 19).2.2.1 ∈ lw_good := memg 943 rfl rfl
set_option maxRecDepth 100000 in
theorem fl_RX12_215 : Cond.fieldLink RX12 215 (TX12 20).1 (TX12 20).2.1 (TX12 20).2.2.1 ∈ lw_good := memg 944 rfl rfl
set_option maxRecDepth 100000 in
theorem fl_RX12_218 : Cond.fieldLink RX12 218 (TX12 21).1 (TX12 21).2.1 (TX12 21).2.2.1 ∈ lw_good := memg 945 rfl rfl
set_option maxRecDepth 100000 in
theorem fl_RX12_221 : Cond.fieldLink RX12 221 (TX12 22).1 (TX12 22).2.1 (TX12 22).2.2.1 ∈ lw_good := memg 946 rfl rfl
set_option maxRecDepth 100000 in
theorem fl_RX12_52 : Cond.fieldLink RX12 52 (TX12 23).1 (TX12 23).2.1 (TX12 23).2.2.1 ∈ lw_good := memg 947 rfl rfl
set_option maxRecDepth 100000 in
theorem fl_RX12_55 : Cond.fieldLink RX12 55 (TX12 24).1 (TX12 24).2.1 (TX12 24).2.2.1 ∈ lw_good := memg 948 rfl rfl
set_option maxRecDepth 100000 in
theorem fl_RX12_58 : Cond.fieldLink RX12 58 (TX12 25).1 (TX12 25).2.1 (TX12 25).2.2.1 ∈ lw_good := memg 949 rfl rfl
set_option maxRecDepth 100000 in
theorem fl_RX12_61 : Cond.fieldLink RX12 61 (TX12 26).1 (TX12 26).2.1 (TX12 26).2.2.1 ∈ lw_good := memg 950 rfl rfl
set_option maxRecDepth 100000 in
theorem fl_RX12_246 : Cond.fieldLink RX12 246 (TX12 27).1 (TX12 27).2.1 (TX12 27).2.2.1 ∈ lw_good := memg 951 rfl rfl
set_option maxRecDepth 100000 in
theorem fl_RX12_252 : Cond.fieldLink RX12 252 (TX12 28).1 (TX12 28).2.1 (TX12 28).2.2.1 ∈ lw_good := memg 952 rfl rfl
set_option maxRecDepth 100000 in
theorem fl_RX12_64 : Cond.fieldLink RX12 64 (TX12 29).1 (TX12 29).2.1 (TX12 29).2.2.1 ∈ lw_good := memg 953 rfl rfl
set_option maxRecDepth 100000 in
theorem fl_RX12_255 : Cond.fieldLink RX12 255 (TX12 30).1 (TX12 30).2.1 (TX12 30).2.2.1 ∈ lw_good := memg 954 rfl rfl
set_option maxRecDepth 100000 in
theorem fl_RX12_67 : Cond.fieldLink RX12 67 (TX12 31).1 (TX12 31).2.1 (TX12 31).2.2.1 ∈ lw_good := memg 955 rfl rfl
set_option maxRecDepth 100000 in
theorem fl_RX12_70 : Cond.fieldLink RX12 70 (TX12 32).1 (TX12 32).2.1 (TX12 32).2.2.1 ∈ lw_good := memg 956 rfl rfl
set_option maxRecDepth 100000 in
theorem fl_RX12_73 : Cond.fieldLink RX12 73 (TX12 33).1 (TX12 33).2.1 (TX12 33).2.2.1 ∈ lw_good := memg 957 rfl rfl
set_option maxRecDepth 100000 in
theorem fl_RX12_76 : Cond.fieldLink RX12 76 (TX12 34).1 (TX12 34).2.1 (TX12 34).2.2.1 ∈ lw_good := memg 958 rfl rfl
set_option maxRecDepth 100000 in
theorem fl_RX12_79 : Cond.fieldLink RX12 79 (TX12 35).1 (TX12 35).2.1 (TX12 35).2.2.1 ∈ lw_good := memg 959 rfl rfl
set_option maxRecDepth 100000 in
theorem fl_RX12_82 : Cond.fieldLink RX12 82 (TX12 36).1 (TX12 36).2.1 (TX12 36).2.2.1 ∈ lw_good := memg 960 rfl rfl
set_option maxRecDepth 100000 in
theorem fl_RX12_261 : Cond.fieldLink RX12 261 (TX12 37).1 (TX12 37).2.1 (TX12 37).2.2.1 ∈ lw_good := memg 961 rfl rfl
set_option maxRecDepth 100000 in
theorem fl_RX12_267 : Cond.fieldLink RX12 267 (TX12 38).1 (TX12 38).2.1 (TX12 38).2.2.1 ∈ lw_good := memg 962 rfl rfl
set_option maxRecDepth 100000 in
theorem fl_RX12_270 : Cond.fieldLink RX12 270 (TX12 39).1 (TX12 39).2.1 (TX12 39).2.2.1 ∈ lw_good := memg 963 rfl rfl
set_option maxRecDepth 100000 in
theorem fl_RX12_287 : Cond.fieldLink RX12 287 (TX12 40).1 (TX12 40).2.1 (TX12 40).2.2.1 ∈ lw_good := memg 964 rfl rfl
set_option maxRecDepth 100000 in
theorem fl_RX12_296 : Cond.fieldLink RX12 296 (TX12 41).1 (TX12 41).2.1 (TX12 41).2.2.1 ∈ lw_good := memg 965 rfl rfl
set_option maxRecDepth 100000 in
theorem fl_RX12_302 : Cond.fieldLink RX12 302 (TX12 42).1 (TX12 42).2.1 (TX12 42).2.2.1 ∈ lw_good := memg 966 rfl rfl
set_option maxRecDepth 100000 in
theorem fl_RX12_290 : Cond.fieldLink RX12 290 (TX12 43).1 (TX12 43).2.1 (TX12 43).2.2.1 ∈ lw_good := memg 967 rfl rfl
set_option maxRecDepth 100000 in
theorem fl_RX12_299 : Cond.fieldLink RX12 299 (TX12 44).1 (TX12 44).2.1 (TX12 44).2.2.1 ∈ lw_good := memg 968 rfl rfl
set_option maxRecDepth 100000 in
theorem fl_RX12_305 : Cond.fieldLink RX12 305 (TX12 45).1 (TX12 45).2.1 (TX12 45).2.2.1 ∈ lw_good := memg 969 rfl rfl
set_option maxRecDepth 100000 in
theorem fl_RX12_308 : Cond.fieldLink RX12 308 (TX12 46).1 (TX12 46).2.1 (TX12 46).2.2.1 ∈ lw_good := memg 970 rfl rfl
set_option maxRecDepth 100000 in
theorem fl_RX12_314 : Cond.fieldLink RX12 314 (TX12 47).1 (TX12 47).2.1 (TX12 47).2.2.1 ∈ lw_good := memg 971 rfl rfl
set_option maxRecDepth 100000 in
theorem fl_RX12_317 : Cond.fieldLink RX12 317 (TX12 48).1 (TX12 48).2.1 (TX12 48).2.2.1 ∈ lw_good := memg 972 rfl rfl
set_option maxRecDepth 100000 in
theorem fl_RX12_86 : Cond.fieldLink RX12 86 (TX12 49).1 (TX12 49).2.1 (TX12 49).2.2.1 ∈ lw_good := memg 973 rfl rfl
set_option maxRecDepth 100000 in
theorem fl_RX12_323 : Cond.fieldLink RX12 323 (TX12 50).1 (TX12 50).2.1 (TX12 50).2.2.1 ∈ lw_good := memg 974 rfl rfl
set_option maxRecDepth 100000 in
theorem ml_RL_17 : Cond.methodLink RL 17 mX12_status.1 ∈ lw_good := memg 1078 rfl rfl
set_option maxRecDepth 100000 in
theorem ml_RL_22 : Cond.methodLink RL 22 mX12_out.1 ∈ lw_good := memg 1082 rfl rfl
set_option maxRecDepth 100000 in
theorem ml_RL_27 : Cond.methodLink RL 27 mX12_stone.1 ∈ lw_good := memg 1086 rfl rfl
set_option maxRecDepth 100000 in
theorem ml_RX12_177 : Cond.methodLink RX12 177 mX12_isSection.1 ∈ lw_good := memg 1090 rfl rfl
set_option maxRecDepth 100000 in
theorem ml_RX12_181 : Cond.methodLink RX12 181 mX12_is.1 ∈ lw_good := memg 1093 rfl rfl
set_option maxRecDepth 100000 in
theorem ml_RL_32 : Cond.methodLink RL 32 mX12_band.1 ∈ lw_good := memg 1097 rfl rfl
set_option maxRecDepth 100000 in
theorem ml_RX12_184 : Cond.methodLink RX12 184 mX12_refuse.1 ∈ lw_good := memg 1101 rfl rfl
set_option maxRecDepth 100000 in
theorem ml_RL_37 : Cond.methodLink RL 37 mX12_rod.1 ∈ lw_good := memg 1105 rfl rfl
set_option maxRecDepth 100000 in
theorem ml_RL_41 : Cond.methodLink RL 41 mX12_change.1 ∈ lw_good := memg 1109 rfl rfl
set_option maxRecDepth 100000 in
theorem ml_RX12_187 : Cond.methodLink RX12 187 mX12_isRod.1 ∈ lw_good := memg 1113 rfl rfl
set_option maxRecDepth 100000 in
theorem ml_RL_46 : Cond.methodLink RL 46 mX12_told.1 ∈ lw_good := memg 1117 rfl rfl
set_option maxRecDepth 100000 in
theorem ml_RX12_195 : Cond.methodLink RX12 195 mX12_asTold.1 ∈ lw_good := memg 1121 rfl rfl
set_option maxRecDepth 100000 in
theorem ml_RX12_198 : Cond.methodLink RX12 198 mX12_greatest.1 ∈ lw_good := memg 1125 rfl rfl
set_option maxRecDepth 100000 in
theorem ml_RX12_191 : Cond.methodLink RX12 191 mX12_pulls.1 ∈ lw_good := memg 1129 rfl rfl
set_option maxRecDepth 100000 in
theorem ml_RL_50 : Cond.methodLink RL 50 mX12_strength.1 ∈ lw_good := memg 1133 rfl rfl
set_option maxRecDepth 100000 in
theorem ml_RL_54 : Cond.methodLink RL 54 mX12_width.1 ∈ lw_good := memg 1137 rfl rfl
set_option maxRecDepth 100000 in
theorem ml_RL_59 : Cond.methodLink RL 59 mX12_bend.1 ∈ lw_good := memg 1141 rfl rfl
set_option maxRecDepth 100000 in
theorem ml_RX12_232 : Cond.methodLink RX12 232 mX12_wrong.1 ∈ lw_good := memg 1145 rfl rfl
set_option maxRecDepth 100000 in
theorem ml_RX12_226 : Cond.methodLink RX12 226 mX12_isNumber.1 ∈ lw_good := memg 1149 rfl rfl
set_option maxRecDepth 100000 in
theorem kc_RX12_224 : Cond.constant RX12 224 (Int32.ofInt (-1000000)) ∈ lw_good := memg 1152 rfl rfl
set_option maxRecDepth 100000 in
theorem kc_RX12_225 : Cond.constant RX12 225 (Int32.ofInt (1000000)) ∈ lw_good := memg 1153 rfl rfl
set_option maxRecDepth 100000 in
theorem ml_RX12_229 : Cond.methodLink RX12 229 mX12_isPush.1 ∈ lw_good := memg 1154 rfl rfl
set_option maxRecDepth 100000 in
theorem ml_RX12_235 : Cond.methodLink RX12 235 mX12_go.1 ∈ lw_good := memg 1158 rfl rfl
set_option maxRecDepth 100000 in
theorem kl_RX12_201 : Cond.constantLong RX12 201 (Int64.ofInt (2)) ∈ lw_good := memg 1162 rfl rfl
set_option maxRecDepth 100000 in
theorem ml_RX12_203 : Cond.methodLink RX12 203 mX12_at.1 ∈ lw_good := memg 1163 rfl rfl
set_option maxRecDepth 100000 in
theorem ml_RX12_207 : Cond.methodLink RX12 207 mX12_found.1 ∈ lw_good := memg 1167 rfl rfl
set_option maxRecDepth 100000 in
theorem ml_RX12_125 : Cond.methodLink RX12 125 mX12_whole.1 ∈ lw_good := memg 1171 rfl rfl
set_option maxRecDepth 100000 in
theorem ml_RX12_96 : Cond.methodLink RX12 96 mX12_room.1 ∈ lw_good := memg 1175 rfl rfl
set_option maxRecDepth 100000 in
theorem kl_RX12_100 : Cond.constantLong RX12 100 (Int64.ofInt (1073741823)) ∈ lw_good := memg 1179 rfl rfl
set_option maxRecDepth 100000 in
theorem ml_RX12_102 : Cond.methodLink RX12 102 mX12_done.1 ∈ lw_good := memg 1180 rfl rfl
set_option maxRecDepth 100000 in
theorem ml_RX12_239 : Cond.methodLink RX12 239 mX12_tells.1 ∈ lw_good := memg 1184 rfl rfl
set_option maxRecDepth 100000 in
theorem ml_RX12_168 : Cond.methodLink RX12 168 mX12_common.1 ∈ lw_good := memg 1188 rfl rfl
set_option maxRecDepth 100000 in
theorem ml_RX12_106 : Cond.methodLink RX12 106 mX12_places.1 ∈ lw_good := memg 1192 rfl rfl
set_option maxRecDepth 100000 in
theorem ml_RX12_115 : Cond.methodLink RX12 115 mJ9_max_7cf53.1 ∈ lw_good := memg 1196 rfl rfl
set_option maxRecDepth 100000 in
theorem ml_RX12_157 : Cond.methodLink RX12 157 mX12_put.1 ∈ lw_good := memg 1197 rfl rfl
set_option maxRecDepth 100000 in
theorem ml_RX12_153 : Cond.methodLink RX12 153 mX12_divide.1 ∈ lw_good := memg 1201 rfl rfl
set_option maxRecDepth 100000 in
theorem ml_RX12_122 : Cond.methodLink RX12 122 mX12_compareSizes.1 ∈ lw_good := memg 1205 rfl rfl
set_option maxRecDepth 100000 in
theorem ml_RX12_141 : Cond.methodLink RX12 141 mX12_divideShort.1 ∈ lw_good := memg 1209 rfl rfl
set_option maxRecDepth 100000 in
theorem kc_RX12_145 : Cond.constant RX12 145 (Int32.ofInt (536870912)) ∈ lw_good := memg 1213 rfl rfl
set_option maxRecDepth 100000 in
theorem kc_RX12_121 : Cond.constant RX12 121 (Int32.ofInt (1073741823)) ∈ lw_good := memg 1214 rfl rfl
set_option maxRecDepth 100000 in
theorem ml_RX12_146 : Cond.methodLink RX12 146 mX12_step.1 ∈ lw_good := memg 1215 rfl rfl
set_option maxRecDepth 100000 in
theorem ml_RX12_149 : Cond.methodLink RX12 149 mJ9_min_f86c9.1 ∈ lw_good := memg 1219 rfl rfl
set_option maxRecDepth 100000 in
theorem ml_RX12_171 : Cond.methodLink RX12 171 mX12_divided.1 ∈ lw_good := memg 1220 rfl rfl
set_option maxRecDepth 100000 in
theorem ml_RX12_112 : Cond.methodLink RX12 112 mX12_sign.1 ∈ lw_good := memg 1224 rfl rfl
set_option maxRecDepth 100000 in
theorem ml_RX12_129 : Cond.methodLink RX12 129 mX12_turned.1 ∈ lw_good := memg 1228 rfl rfl
set_option maxRecDepth 100000 in
theorem ml_RX12_109 : Cond.methodLink RX12 109 mX12_copy.1 ∈ lw_good := memg 1232 rfl rfl
set_option maxRecDepth 100000 in
theorem ml_RX12_174 : Cond.methodLink RX12 174 mX12_tellsNumber.1 ∈ lw_good := memg 1236 rfl rfl
set_option maxRecDepth 100000 in
theorem ml_RX12_163 : Cond.methodLink RX12 163 mX12_tells0.1 ∈ lw_good := memg 1240 rfl rfl
set_option maxRecDepth 100000 in
theorem kl_RX12_166 : Cond.constantLong RX12 166 (Int64.ofInt (10)) ∈ lw_good := memg 1244 rfl rfl
set_option maxRecDepth 100000 in
theorem ml_RL_63 : Cond.methodLink RL 63 mX12_cut.1 ∈ lw_good := memg 1245 rfl rfl
set_option maxRecDepth 100000 in
theorem ml_RL_67 : Cond.methodLink RL 67 mX12_borne.1 ∈ lw_good := memg 1249 rfl rfl
set_option maxRecDepth 100000 in
theorem ml_RX12_242 : Cond.methodLink RX12 242 mX12_bears.1 ∈ lw_good := memg 1253 rfl rfl
set_option maxRecDepth 100000 in
theorem ml_RL_71 : Cond.methodLink RL 71 mX12_pair.1 ∈ lw_good := memg 1257 rfl rfl
set_option maxRecDepth 100000 in
theorem ml_RL_76 : Cond.methodLink RL 76 mX12_clear.1 ∈ lw_good := memg 1261 rfl rfl
set_option maxRecDepth 100000 in
theorem ml_RL_80 : Cond.methodLink RL 80 mX12_safe.1 ∈ lw_good := memg 1265 rfl rfl
set_option maxRecDepth 100000 in
theorem ml_RX12_249 : Cond.methodLink RX12 249 mX12_fails.1 ∈ lw_good := memg 1269 rfl rfl
set_option maxRecDepth 100000 in
theorem ml_RL_84 : Cond.methodLink RL 84 mX12_size.1 ∈ lw_good := memg 1273 rfl rfl
set_option maxRecDepth 100000 in
theorem ml_RL_88 : Cond.methodLink RL 88 mX12_best.1 ∈ lw_good := memg 1277 rfl rfl
set_option maxRecDepth 100000 in
theorem ml_RX12_258 : Cond.methodLink RX12 258 mX12_choose.1 ∈ lw_good := memg 1281 rfl rfl
set_option maxRecDepth 100000 in
theorem ml_RL_92 : Cond.methodLink RL 92 mX12_chosen.1 ∈ lw_good := memg 1285 rfl rfl
set_option maxRecDepth 100000 in
theorem ml_RL_96 : Cond.methodLink RL 96 mX12_take.1 ∈ lw_good := memg 1289 rfl rfl
set_option maxRecDepth 100000 in
theorem ml_RL_100 : Cond.methodLink RL 100 mX12_span.1 ∈ lw_good := memg 1293 rfl rfl
set_option maxRecDepth 100000 in
theorem ml_RL_104 : Cond.methodLink RL 104 mX12_away.1 ∈ lw_good := memg 1297 rfl rfl
set_option maxRecDepth 100000 in
theorem ml_RL_109 : Cond.methodLink RL 109 mX12_hold.1 ∈ lw_good := memg 1301 rfl rfl
set_option maxRecDepth 100000 in
theorem ml_RL_113 : Cond.methodLink RL 113 mX12_load.1 ∈ lw_good := memg 1305 rfl rfl
set_option maxRecDepth 100000 in
theorem ml_RX12_264 : Cond.methodLink RX12 264 mX12_isSpan.1 ∈ lw_good := memg 1309 rfl rfl
set_option maxRecDepth 100000 in
theorem ml_RL_117 : Cond.methodLink RL 117 mX12_times.1 ∈ lw_good := memg 1313 rfl rfl
set_option maxRecDepth 100000 in
theorem ml_RX12_320 : Cond.methodLink RX12 320 mX12_timesOf.1 ∈ lw_good := memg 1317 rfl rfl
set_option maxRecDepth 100000 in
theorem ml_RX12_311 : Cond.methodLink RX12 311 mX12_gather.1 ∈ lw_good := memg 1321 rfl rfl
set_option maxRecDepth 100000 in
theorem ml_RX12_273 : Cond.methodLink RX12 273 mX12_strengthOf.1 ∈ lw_good := memg 1325 rfl rfl
set_option maxRecDepth 100000 in
theorem ml_RX12_293 : Cond.methodLink RX12 293 mX12_hogOf.1 ∈ lw_good := memg 1329 rfl rfl
set_option maxRecDepth 100000 in
theorem ml_RX12_277 : Cond.methodLink RX12 277 mX12_less3.1 ∈ lw_good := memg 1333 rfl rfl
set_option maxRecDepth 100000 in
theorem ml_RX12_281 : Cond.methodLink RX12 281 mX12_product.1 ∈ lw_good := memg 1337 rfl rfl
set_option maxRecDepth 100000 in
theorem ml_RX12_284 : Cond.methodLink RX12 284 mX12_less.1 ∈ lw_good := memg 1341 rfl rfl
set_option maxRecDepth 100000 in
theorem ml_RX12_132 : Cond.methodLink RX12 132 mX12_sum.1 ∈ lw_good := memg 1345 rfl rfl
set_option maxRecDepth 100000 in
theorem ml_RL_121 : Cond.methodLink RL 121 mX12_factor.1 ∈ lw_good := memg 1349 rfl rfl
set_option maxRecDepth 100000 in
theorem ml_RX12_332 : Cond.methodLink RX12 332 mX12_finds.1 ∈ lw_good := memg 1353 rfl rfl
set_option maxRecDepth 100000 in
theorem ml_RX12_326 : Cond.methodLink RX12 326 mX12_held.1 ∈ lw_good := memg 1357 rfl rfl
set_option maxRecDepth 100000 in
theorem ml_RX12_329 : Cond.methodLink RX12 329 mX12_keep.1 ∈ lw_good := memg 1361 rfl rfl
set_option maxRecDepth 100000 in
theorem ml_RL_125 : Cond.methodLink RL 125 mX12_weakest.1 ∈ lw_good := memg 1365 rfl rfl
set_option maxRecDepth 100000 in
theorem im_obj : Cond.instanceMethod objectInit ∈ lw_good := memg 94 rfl rfl
set_option maxRecDepth 100000 in
theorem co_obj : Cond.code objectInit ⟨#[0xb1]⟩ 1 none ∈ lw_good := memg 95 rfl rfl
set_option maxRecDepth 100000 in
theorem sm_copy : Cond.static arraycopyName ∈ lw_good := memg 742 rfl rfl
set_option maxRecDepth 100000 in
theorem ini_sys : Cond.initialized "java/lang/System" ∈ lw_good := memg 87 rfl rfl
end
