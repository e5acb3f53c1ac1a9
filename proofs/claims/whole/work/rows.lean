section
-- ===== PART A: goes FIRST, ahead of the names: the tables' words, and 'selects' of the private methods out of them =====
/-- a private method of a class that the tables say can be made, by its rows of tables_1 -/
def lw_okq (q : MethodName × Nat) : Prop := (q.1.cls ≠ "java/lang/invoke/MethodHandle" ∧ q.1.cls ≠ "java/lang/invoke/VarHandle") ∧ Cond.instantiable q.1.cls q.2 ∈ tables_1 ∧ Cond.privateMethod q.1 ∈ tables_1 ∧ Cond.instanceMethod q.1 ∈ tables_1
theorem lw_p0 : lw_okq (⟨"RodBeam$Section", "findEdges", "()V"⟩, 18) := ⟨⟨by decide +kernel, by decide +kernel⟩, List.mem_of_getElem? (i := 290) (by decide +kernel), List.mem_of_getElem? (i := 300) (by decide +kernel), List.mem_of_getElem? (i := 301) (by decide +kernel)⟩
theorem lw_p1 : lw_okq (⟨"RodBeam$Section", "isEdge", "(I)Z"⟩, 18) := ⟨⟨by decide +kernel, by decide +kernel⟩, List.mem_of_getElem? (i := 290) (by decide +kernel), List.mem_of_getElem? (i := 308) (by decide +kernel), List.mem_of_getElem? (i := 309) (by decide +kernel)⟩
theorem lw_p2 : lw_okq (⟨"RodBeam$Section", "placeRods", "(II)V"⟩, 18) := ⟨⟨by decide +kernel, by decide +kernel⟩, List.mem_of_getElem? (i := 290) (by decide +kernel), List.mem_of_getElem? (i := 316) (by decide +kernel), List.mem_of_getElem? (i := 317) (by decide +kernel)⟩
theorem lw_p3 : lw_okq (⟨"RodBeam", "isSection", "(I)Z"⟩, 8) := ⟨⟨by decide +kernel, by decide +kernel⟩, List.mem_of_getElem? (i := 18) (by decide +kernel), List.mem_of_getElem? (i := 435) (by decide +kernel), List.mem_of_getElem? (i := 436) (by decide +kernel)⟩
theorem lw_p4 : lw_okq (⟨"RodBeam", "deny", "(I)Z"⟩, 8) := ⟨⟨by decide +kernel, by decide +kernel⟩, List.mem_of_getElem? (i := 18) (by decide +kernel), List.mem_of_getElem? (i := 442) (by decide +kernel), List.mem_of_getElem? (i := 443) (by decide +kernel)⟩
theorem lw_p5 : lw_okq (⟨"RodBeam", "allow", "()Z"⟩, 8) := ⟨⟨by decide +kernel, by decide +kernel⟩, List.mem_of_getElem? (i := 18) (by decide +kernel), List.mem_of_getElem? (i := 447) (by decide +kernel), List.mem_of_getElem? (i := 448) (by decide +kernel)⟩
theorem lw_p6 : lw_okq (⟨"RodBeam", "refuse", "(I)I"⟩, 8) := ⟨⟨by decide +kernel, by decide +kernel⟩, List.mem_of_getElem? (i := 18) (by decide +kernel), List.mem_of_getElem? (i := 455) (by decide +kernel), List.mem_of_getElem? (i := 456) (by decide +kernel)⟩
theorem lw_p7 : lw_okq (⟨"RodBeam", "give", "(I)I"⟩, 8) := ⟨⟨by decide +kernel, by decide +kernel⟩, List.mem_of_getElem? (i := 18) (by decide +kernel), List.mem_of_getElem? (i := 463) (by decide +kernel), List.mem_of_getElem? (i := 464) (by decide +kernel)⟩
theorem lw_p8 : lw_okq (⟨"RodBeam", "isRod", "(II)Z"⟩, 8) := ⟨⟨by decide +kernel, by decide +kernel⟩, List.mem_of_getElem? (i := 18) (by decide +kernel), List.mem_of_getElem? (i := 479) (by decide +kernel), List.mem_of_getElem? (i := 480) (by decide +kernel)⟩
theorem lw_p9 : lw_okq (⟨"RodBeam", "walkTo", "(IIZ)I"⟩, 8) := ⟨⟨by decide +kernel, by decide +kernel⟩, List.mem_of_getElem? (i := 18) (by decide +kernel), List.mem_of_getElem? (i := 505) (by decide +kernel), List.mem_of_getElem? (i := 506) (by decide +kernel)⟩
theorem lw_p10 : lw_okq (⟨"RodBeam", "giveShare", "(LRodBeam$Share;)I"⟩, 8) := ⟨⟨by decide +kernel, by decide +kernel⟩, List.mem_of_getElem? (i := 18) (by decide +kernel), List.mem_of_getElem? (i := 539) (by decide +kernel), List.mem_of_getElem? (i := 540) (by decide +kernel)⟩
theorem lw_p11 : lw_okq (⟨"RodBeam$Text", "write", "(C)V"⟩, 3) := ⟨⟨by decide +kernel, by decide +kernel⟩, List.mem_of_getElem? (i := 26) (by decide +kernel), List.mem_of_getElem? (i := 571) (by decide +kernel), List.mem_of_getElem? (i := 572) (by decide +kernel)⟩
theorem lw_p12 : lw_okq (⟨"RodBeam$Text", "writeWhole", "(LRodBeam$Whole;)V"⟩, 3) := ⟨⟨by decide +kernel, by decide +kernel⟩, List.mem_of_getElem? (i := 26) (by decide +kernel), List.mem_of_getElem? (i := 575) (by decide +kernel), List.mem_of_getElem? (i := 576) (by decide +kernel)⟩
theorem lw_p13 : lw_okq (⟨"RodBeam", "bears", "(LRodBeam$Section;II)Z"⟩, 8) := ⟨⟨by decide +kernel, by decide +kernel⟩, List.mem_of_getElem? (i := 18) (by decide +kernel), List.mem_of_getElem? (i := 590) (by decide +kernel), List.mem_of_getElem? (i := 591) (by decide +kernel)⟩
theorem lw_p14 : lw_okq (⟨"RodBeam", "forgetBests", "()V"⟩, 8) := ⟨⟨by decide +kernel, by decide +kernel⟩, List.mem_of_getElem? (i := 18) (by decide +kernel), List.mem_of_getElem? (i := 604) (by decide +kernel), List.mem_of_getElem? (i := 605) (by decide +kernel)⟩
theorem lw_p15 : lw_okq (⟨"RodBeam$Chooser", "listAsks", "(LRodBeam$Section;LRodBeam$Pairs;)V"⟩, 8) := ⟨⟨by decide +kernel, by decide +kernel⟩, List.mem_of_getElem? (i := 258) (by decide +kernel), List.mem_of_getElem? (i := 637) (by decide +kernel), List.mem_of_getElem? (i := 638) (by decide +kernel)⟩
def lw_privs_1 : List (MethodName × Nat) := [(⟨"RodBeam$Section", "findEdges", "()V"⟩, 18), (⟨"RodBeam$Section", "isEdge", "(I)Z"⟩, 18), (⟨"RodBeam$Section", "placeRods", "(II)V"⟩, 18), (⟨"RodBeam", "isSection", "(I)Z"⟩, 8), (⟨"RodBeam", "deny", "(I)Z"⟩, 8), (⟨"RodBeam", "allow", "()Z"⟩, 8), (⟨"RodBeam", "refuse", "(I)I"⟩, 8), (⟨"RodBeam", "give", "(I)I"⟩, 8), (⟨"RodBeam", "isRod", "(II)Z"⟩, 8), (⟨"RodBeam", "walkTo", "(IIZ)I"⟩, 8), (⟨"RodBeam", "giveShare", "(LRodBeam$Share;)I"⟩, 8), (⟨"RodBeam$Text", "write", "(C)V"⟩, 3), (⟨"RodBeam$Text", "writeWhole", "(LRodBeam$Whole;)V"⟩, 3), (⟨"RodBeam", "bears", "(LRodBeam$Section;II)Z"⟩, 8), (⟨"RodBeam", "forgetBests", "()V"⟩, 8), (⟨"RodBeam$Chooser", "listAsks", "(LRodBeam$Section;LRodBeam$Pairs;)V"⟩, 8)]
theorem lw_r1 : ∀ q ∈ lw_privs_1, lw_okq q := List.forall_mem_cons.mpr ⟨lw_p0, List.forall_mem_cons.mpr ⟨lw_p1, List.forall_mem_cons.mpr ⟨lw_p2, List.forall_mem_cons.mpr ⟨lw_p3, List.forall_mem_cons.mpr ⟨lw_p4, List.forall_mem_cons.mpr ⟨lw_p5, List.forall_mem_cons.mpr ⟨lw_p6, List.forall_mem_cons.mpr ⟨lw_p7, List.forall_mem_cons.mpr ⟨lw_p8, List.forall_mem_cons.mpr ⟨lw_p9, List.forall_mem_cons.mpr ⟨lw_p10, List.forall_mem_cons.mpr ⟨lw_p11, List.forall_mem_cons.mpr ⟨lw_p12, List.forall_mem_cons.mpr ⟨lw_p13, List.forall_mem_cons.mpr ⟨lw_p14, List.forall_mem_cons.mpr ⟨lw_p15, fun _ h => absurd h List.not_mem_nil⟩⟩⟩⟩⟩⟩⟩⟩⟩⟩⟩⟩⟩⟩⟩⟩
theorem lw_p16 : lw_okq (⟨"RodBeam$Chooser", "listAsk", "(LRodBeam$Section;IIZ)V"⟩, 8) := ⟨⟨by decide +kernel, by decide +kernel⟩, List.mem_of_getElem? (i := 258) (by decide +kernel), List.mem_of_getElem? (i := 642) (by decide +kernel), List.mem_of_getElem? (i := 643) (by decide +kernel)⟩
theorem lw_p17 : lw_okq (⟨"RodBeam$Chooser", "bearsAll", "(LRodBeam$Section;)Z"⟩, 8) := ⟨⟨by decide +kernel, by decide +kernel⟩, List.mem_of_getElem? (i := 258) (by decide +kernel), List.mem_of_getElem? (i := 655) (by decide +kernel), List.mem_of_getElem? (i := 656) (by decide +kernel)⟩
theorem lw_p18 : lw_okq (⟨"RodBeam$Chooser", "putFirst", "(I)V"⟩, 8) := ⟨⟨by decide +kernel, by decide +kernel⟩, List.mem_of_getElem? (i := 258) (by decide +kernel), List.mem_of_getElem? (i := 659) (by decide +kernel), List.mem_of_getElem? (i := 660) (by decide +kernel)⟩
theorem lw_p19 : lw_okq (⟨"RodBeam$Chooser", "choose", "(LRodBeam$Section;LRodBeam$Sizes;II)V"⟩, 8) := ⟨⟨by decide +kernel, by decide +kernel⟩, List.mem_of_getElem? (i := 258) (by decide +kernel), List.mem_of_getElem? (i := 663) (by decide +kernel), List.mem_of_getElem? (i := 664) (by decide +kernel)⟩
theorem lw_p20 : lw_okq (⟨"RodBeam$Chooser", "keep", "(LRodBeam$Section;I)V"⟩, 8) := ⟨⟨by decide +kernel, by decide +kernel⟩, List.mem_of_getElem? (i := 258) (by decide +kernel), List.mem_of_getElem? (i := 667) (by decide +kernel), List.mem_of_getElem? (i := 668) (by decide +kernel)⟩
theorem lw_p21 : lw_okq (⟨"RodBeam$Chooser", "attempt", "(LRodBeam$Section;LRodBeam$Sizes;III)V"⟩, 8) := ⟨⟨by decide +kernel, by decide +kernel⟩, List.mem_of_getElem? (i := 258) (by decide +kernel), List.mem_of_getElem? (i := 674) (by decide +kernel), List.mem_of_getElem? (i := 675) (by decide +kernel)⟩
theorem lw_p22 : lw_okq (⟨"RodBeam", "carryOut", "(LRodBeam$Section;)I"⟩, 8) := ⟨⟨by decide +kernel, by decide +kernel⟩, List.mem_of_getElem? (i := 18) (by decide +kernel), List.mem_of_getElem? (i := 700) (by decide +kernel), List.mem_of_getElem? (i := 701) (by decide +kernel)⟩
theorem lw_p23 : lw_okq (⟨"RodBeam", "isSpan", "(I)Z"⟩, 8) := ⟨⟨by decide +kernel, by decide +kernel⟩, List.mem_of_getElem? (i := 18) (by decide +kernel), List.mem_of_getElem? (i := 725) (by decide +kernel), List.mem_of_getElem? (i := 726) (by decide +kernel)⟩
theorem lw_p24 : lw_okq (⟨"RodBeam$Beam", "putSag", "(LRodBeam$Section;LRodBeam$Share;)V"⟩, 12) := ⟨⟨by decide +kernel, by decide +kernel⟩, List.mem_of_getElem? (i := 123) (by decide +kernel), List.mem_of_getElem? (i := 745) (by decide +kernel), List.mem_of_getElem? (i := 746) (by decide +kernel)⟩
theorem lw_p25 : lw_okq (⟨"RodBeam$Beam", "putSupport", "([LRodBeam$Section;ILRodBeam$Share;)V"⟩, 12) := ⟨⟨by decide +kernel, by decide +kernel⟩, List.mem_of_getElem? (i := 123) (by decide +kernel), List.mem_of_getElem? (i := 755) (by decide +kernel), List.mem_of_getElem? (i := 756) (by decide +kernel)⟩
theorem lw_p26 : lw_okq (⟨"RodBeam$Beam", "putHog", "(LRodBeam$Section;LRodBeam$Share;)V"⟩, 12) := ⟨⟨by decide +kernel, by decide +kernel⟩, List.mem_of_getElem? (i := 123) (by decide +kernel), List.mem_of_getElem? (i := 759) (by decide +kernel), List.mem_of_getElem? (i := 760) (by decide +kernel)⟩
theorem lw_p27 : lw_okq (⟨"RodBeam", "giveRatio", "(LRodBeam$Ratio;)I"⟩, 8) := ⟨⟨by decide +kernel, by decide +kernel⟩, List.mem_of_getElem? (i := 18) (by decide +kernel), List.mem_of_getElem? (i := 818) (by decide +kernel), List.mem_of_getElem? (i := 819) (by decide +kernel)⟩
theorem lw_p28 : lw_okq (⟨"RodBeamModel", "is", "(I)Z"⟩, 51) := ⟨⟨by decide +kernel, by decide +kernel⟩, List.mem_of_getElem? (i := 848) (by decide +kernel), List.mem_of_getElem? (i := 1023) (by decide +kernel), List.mem_of_getElem? (i := 1024) (by decide +kernel)⟩
theorem lw_p29 : lw_okq (⟨"RodBeamModel", "refuse", "(I)I"⟩, 51) := ⟨⟨by decide +kernel, by decide +kernel⟩, List.mem_of_getElem? (i := 848) (by decide +kernel), List.mem_of_getElem? (i := 1031) (by decide +kernel), List.mem_of_getElem? (i := 1032) (by decide +kernel)⟩
theorem lw_p30 : lw_okq (⟨"RodBeamModel", "isRod", "(II)Z"⟩, 51) := ⟨⟨by decide +kernel, by decide +kernel⟩, List.mem_of_getElem? (i := 848) (by decide +kernel), List.mem_of_getElem? (i := 1043) (by decide +kernel), List.mem_of_getElem? (i := 1044) (by decide +kernel)⟩
theorem lw_p31 : lw_okq (⟨"RodBeamModel", "asTold", "(I)V"⟩, 51) := ⟨⟨by decide +kernel, by decide +kernel⟩, List.mem_of_getElem? (i := 848) (by decide +kernel), List.mem_of_getElem? (i := 1051) (by decide +kernel), List.mem_of_getElem? (i := 1052) (by decide +kernel)⟩
def lw_privs_2 : List (MethodName × Nat) := [(⟨"RodBeam$Chooser", "listAsk", "(LRodBeam$Section;IIZ)V"⟩, 8), (⟨"RodBeam$Chooser", "bearsAll", "(LRodBeam$Section;)Z"⟩, 8), (⟨"RodBeam$Chooser", "putFirst", "(I)V"⟩, 8), (⟨"RodBeam$Chooser", "choose", "(LRodBeam$Section;LRodBeam$Sizes;II)V"⟩, 8), (⟨"RodBeam$Chooser", "keep", "(LRodBeam$Section;I)V"⟩, 8), (⟨"RodBeam$Chooser", "attempt", "(LRodBeam$Section;LRodBeam$Sizes;III)V"⟩, 8), (⟨"RodBeam", "carryOut", "(LRodBeam$Section;)I"⟩, 8), (⟨"RodBeam", "isSpan", "(I)Z"⟩, 8), (⟨"RodBeam$Beam", "putSag", "(LRodBeam$Section;LRodBeam$Share;)V"⟩, 12), (⟨"RodBeam$Beam", "putSupport", "([LRodBeam$Section;ILRodBeam$Share;)V"⟩, 12), (⟨"RodBeam$Beam", "putHog", "(LRodBeam$Section;LRodBeam$Share;)V"⟩, 12), (⟨"RodBeam", "giveRatio", "(LRodBeam$Ratio;)I"⟩, 8), (⟨"RodBeamModel", "is", "(I)Z"⟩, 51), (⟨"RodBeamModel", "refuse", "(I)I"⟩, 51), (⟨"RodBeamModel", "isRod", "(II)Z"⟩, 51), (⟨"RodBeamModel", "asTold", "(I)V"⟩, 51)]
theorem lw_r2 : ∀ q ∈ lw_privs_2, lw_okq q := List.forall_mem_cons.mpr ⟨lw_p16, List.forall_mem_cons.mpr ⟨lw_p17, List.forall_mem_cons.mpr ⟨lw_p18, List.forall_mem_cons.mpr ⟨lw_p19, List.forall_mem_cons.mpr ⟨lw_p20, List.forall_mem_cons.mpr ⟨lw_p21, List.forall_mem_cons.mpr ⟨lw_p22, List.forall_mem_cons.mpr ⟨lw_p23, List.forall_mem_cons.mpr ⟨lw_p24, List.forall_mem_cons.mpr ⟨lw_p25, List.forall_mem_cons.mpr ⟨lw_p26, List.forall_mem_cons.mpr ⟨lw_p27, List.forall_mem_cons.mpr ⟨lw_p28, List.forall_mem_cons.mpr ⟨lw_p29, List.forall_mem_cons.mpr ⟨lw_p30, List.forall_mem_cons.mpr ⟨lw_p31, fun _ h => absurd h List.not_mem_nil⟩⟩⟩⟩⟩⟩⟩⟩⟩⟩⟩⟩⟩⟩⟩⟩
theorem lw_p32 : lw_okq (⟨"RodBeamModel", "greatest", "(I)I"⟩, 51) := ⟨⟨by decide +kernel, by decide +kernel⟩, List.mem_of_getElem? (i := 848) (by decide +kernel), List.mem_of_getElem? (i := 1055) (by decide +kernel), List.mem_of_getElem? (i := 1056) (by decide +kernel)⟩
theorem lw_p33 : lw_okq (⟨"RodBeamModel", "pulls", "()I"⟩, 51) := ⟨⟨by decide +kernel, by decide +kernel⟩, List.mem_of_getElem? (i := 848) (by decide +kernel), List.mem_of_getElem? (i := 1059) (by decide +kernel), List.mem_of_getElem? (i := 1060) (by decide +kernel)⟩
theorem lw_p34 : lw_okq (⟨"RodBeamModel", "wrong", "(II)I"⟩, 51) := ⟨⟨by decide +kernel, by decide +kernel⟩, List.mem_of_getElem? (i := 848) (by decide +kernel), List.mem_of_getElem? (i := 1075) (by decide +kernel), List.mem_of_getElem? (i := 1076) (by decide +kernel)⟩
theorem lw_p35 : lw_okq (⟨"RodBeamModel", "isPush", "(II)Z"⟩, 51) := ⟨⟨by decide +kernel, by decide +kernel⟩, List.mem_of_getElem? (i := 848) (by decide +kernel), List.mem_of_getElem? (i := 1084) (by decide +kernel), List.mem_of_getElem? (i := 1085) (by decide +kernel)⟩
theorem lw_p36 : lw_okq (⟨"RodBeamModel", "go", "(IJZ)V"⟩, 51) := ⟨⟨by decide +kernel, by decide +kernel⟩, List.mem_of_getElem? (i := 848) (by decide +kernel), List.mem_of_getElem? (i := 1088) (by decide +kernel), List.mem_of_getElem? (i := 1089) (by decide +kernel)⟩
theorem lw_p37 : lw_okq (⟨"RodBeamModel", "at", "(II)J"⟩, 51) := ⟨⟨by decide +kernel, by decide +kernel⟩, List.mem_of_getElem? (i := 848) (by decide +kernel), List.mem_of_getElem? (i := 1093) (by decide +kernel), List.mem_of_getElem? (i := 1094) (by decide +kernel)⟩
theorem lw_p38 : lw_okq (⟨"RodBeamModel", "found", "(JJJJ)V"⟩, 51) := ⟨⟨by decide +kernel, by decide +kernel⟩, List.mem_of_getElem? (i := 848) (by decide +kernel), List.mem_of_getElem? (i := 1097) (by decide +kernel), List.mem_of_getElem? (i := 1098) (by decide +kernel)⟩
theorem lw_p39 : lw_okq (⟨"RodBeamModel", "whole", "(J)I"⟩, 51) := ⟨⟨by decide +kernel, by decide +kernel⟩, List.mem_of_getElem? (i := 848) (by decide +kernel), List.mem_of_getElem? (i := 1101) (by decide +kernel), List.mem_of_getElem? (i := 1102) (by decide +kernel)⟩
theorem lw_p40 : lw_okq (⟨"RodBeamModel", "room", "(I)I"⟩, 51) := ⟨⟨by decide +kernel, by decide +kernel⟩, List.mem_of_getElem? (i := 848) (by decide +kernel), List.mem_of_getElem? (i := 1105) (by decide +kernel), List.mem_of_getElem? (i := 1106) (by decide +kernel)⟩
theorem lw_p41 : lw_okq (⟨"RodBeamModel", "done", "(IIZ)I"⟩, 51) := ⟨⟨by decide +kernel, by decide +kernel⟩, List.mem_of_getElem? (i := 848) (by decide +kernel), List.mem_of_getElem? (i := 1110) (by decide +kernel), List.mem_of_getElem? (i := 1111) (by decide +kernel)⟩
theorem lw_p42 : lw_okq (⟨"RodBeamModel", "tells", "(II)I"⟩, 51) := ⟨⟨by decide +kernel, by decide +kernel⟩, List.mem_of_getElem? (i := 848) (by decide +kernel), List.mem_of_getElem? (i := 1114) (by decide +kernel), List.mem_of_getElem? (i := 1115) (by decide +kernel)⟩
theorem lw_p43 : lw_okq (⟨"RodBeamModel", "common", "(II)I"⟩, 51) := ⟨⟨by decide +kernel, by decide +kernel⟩, List.mem_of_getElem? (i := 848) (by decide +kernel), List.mem_of_getElem? (i := 1118) (by decide +kernel), List.mem_of_getElem? (i := 1119) (by decide +kernel)⟩
theorem lw_p44 : lw_okq (⟨"RodBeamModel", "places", "(I)I"⟩, 51) := ⟨⟨by decide +kernel, by decide +kernel⟩, List.mem_of_getElem? (i := 848) (by decide +kernel), List.mem_of_getElem? (i := 1122) (by decide +kernel), List.mem_of_getElem? (i := 1123) (by decide +kernel)⟩
theorem lw_p45 : lw_okq (⟨"RodBeamModel", "put", "(II)V"⟩, 51) := ⟨⟨by decide +kernel, by decide +kernel⟩, List.mem_of_getElem? (i := 848) (by decide +kernel), List.mem_of_getElem? (i := 1127) (by decide +kernel), List.mem_of_getElem? (i := 1128) (by decide +kernel)⟩
theorem lw_p46 : lw_okq (⟨"RodBeamModel", "divide", "(II)V"⟩, 51) := ⟨⟨by decide +kernel, by decide +kernel⟩, List.mem_of_getElem? (i := 848) (by decide +kernel), List.mem_of_getElem? (i := 1131) (by decide +kernel), List.mem_of_getElem? (i := 1132) (by decide +kernel)⟩
theorem lw_p47 : lw_okq (⟨"RodBeamModel", "compareSizes", "(II)I"⟩, 51) := ⟨⟨by decide +kernel, by decide +kernel⟩, List.mem_of_getElem? (i := 848) (by decide +kernel), List.mem_of_getElem? (i := 1135) (by decide +kernel), List.mem_of_getElem? (i := 1136) (by decide +kernel)⟩
def lw_privs_3 : List (MethodName × Nat) := [(⟨"RodBeamModel", "greatest", "(I)I"⟩, 51), (⟨"RodBeamModel", "pulls", "()I"⟩, 51), (⟨"RodBeamModel", "wrong", "(II)I"⟩, 51), (⟨"RodBeamModel", "isPush", "(II)Z"⟩, 51), (⟨"RodBeamModel", "go", "(IJZ)V"⟩, 51), (⟨"RodBeamModel", "at", "(II)J"⟩, 51), (⟨"RodBeamModel", "found", "(JJJJ)V"⟩, 51), (⟨"RodBeamModel", "whole", "(J)I"⟩, 51), (⟨"RodBeamModel", "room", "(I)I"⟩, 51), (⟨"RodBeamModel", "done", "(IIZ)I"⟩, 51), (⟨"RodBeamModel", "tells", "(II)I"⟩, 51), (⟨"RodBeamModel", "common", "(II)I"⟩, 51), (⟨"RodBeamModel", "places", "(I)I"⟩, 51), (⟨"RodBeamModel", "put", "(II)V"⟩, 51), (⟨"RodBeamModel", "divide", "(II)V"⟩, 51), (⟨"RodBeamModel", "compareSizes", "(II)I"⟩, 51)]
theorem lw_r3 : ∀ q ∈ lw_privs_3, lw_okq q := List.forall_mem_cons.mpr ⟨lw_p32, List.forall_mem_cons.mpr ⟨lw_p33, List.forall_mem_cons.mpr ⟨lw_p34, List.forall_mem_cons.mpr ⟨lw_p35, List.forall_mem_cons.mpr ⟨lw_p36, List.forall_mem_cons.mpr ⟨lw_p37, List.forall_mem_cons.mpr ⟨lw_p38, List.forall_mem_cons.mpr ⟨lw_p39, List.forall_mem_cons.mpr ⟨lw_p40, List.forall_mem_cons.mpr ⟨lw_p41, List.forall_mem_cons.mpr ⟨lw_p42, List.forall_mem_cons.mpr ⟨lw_p43, List.forall_mem_cons.mpr ⟨lw_p44, List.forall_mem_cons.mpr ⟨lw_p45, List.forall_mem_cons.mpr ⟨lw_p46, List.forall_mem_cons.mpr ⟨lw_p47, fun _ h => absurd h List.not_mem_nil⟩⟩⟩⟩⟩⟩⟩⟩⟩⟩⟩⟩⟩⟩⟩⟩
theorem lw_p48 : lw_okq (⟨"RodBeamModel", "divideShort", "(I)V"⟩, 51) := ⟨⟨by decide +kernel, by decide +kernel⟩, List.mem_of_getElem? (i := 848) (by decide +kernel), List.mem_of_getElem? (i := 1139) (by decide +kernel), List.mem_of_getElem? (i := 1140) (by decide +kernel)⟩
theorem lw_p49 : lw_okq (⟨"RodBeamModel", "step", "(II)I"⟩, 51) := ⟨⟨by decide +kernel, by decide +kernel⟩, List.mem_of_getElem? (i := 848) (by decide +kernel), List.mem_of_getElem? (i := 1145) (by decide +kernel), List.mem_of_getElem? (i := 1146) (by decide +kernel)⟩
theorem lw_p50 : lw_okq (⟨"RodBeamModel", "divided", "(II)I"⟩, 51) := ⟨⟨by decide +kernel, by decide +kernel⟩, List.mem_of_getElem? (i := 848) (by decide +kernel), List.mem_of_getElem? (i := 1150) (by decide +kernel), List.mem_of_getElem? (i := 1151) (by decide +kernel)⟩
theorem lw_p51 : lw_okq (⟨"RodBeamModel", "sign", "(I)I"⟩, 51) := ⟨⟨by decide +kernel, by decide +kernel⟩, List.mem_of_getElem? (i := 848) (by decide +kernel), List.mem_of_getElem? (i := 1154) (by decide +kernel), List.mem_of_getElem? (i := 1155) (by decide +kernel)⟩
theorem lw_p52 : lw_okq (⟨"RodBeamModel", "turned", "(I)I"⟩, 51) := ⟨⟨by decide +kernel, by decide +kernel⟩, List.mem_of_getElem? (i := 848) (by decide +kernel), List.mem_of_getElem? (i := 1158) (by decide +kernel), List.mem_of_getElem? (i := 1159) (by decide +kernel)⟩
theorem lw_p53 : lw_okq (⟨"RodBeamModel", "copy", "(I)I"⟩, 51) := ⟨⟨by decide +kernel, by decide +kernel⟩, List.mem_of_getElem? (i := 848) (by decide +kernel), List.mem_of_getElem? (i := 1162) (by decide +kernel), List.mem_of_getElem? (i := 1163) (by decide +kernel)⟩
theorem lw_p54 : lw_okq (⟨"RodBeamModel", "tellsNumber", "(I)V"⟩, 51) := ⟨⟨by decide +kernel, by decide +kernel⟩, List.mem_of_getElem? (i := 848) (by decide +kernel), List.mem_of_getElem? (i := 1166) (by decide +kernel), List.mem_of_getElem? (i := 1167) (by decide +kernel)⟩
theorem lw_p55 : lw_okq (⟨"RodBeamModel", "tells0", "(I)V"⟩, 51) := ⟨⟨by decide +kernel, by decide +kernel⟩, List.mem_of_getElem? (i := 848) (by decide +kernel), List.mem_of_getElem? (i := 1170) (by decide +kernel), List.mem_of_getElem? (i := 1171) (by decide +kernel)⟩
theorem lw_p56 : lw_okq (⟨"RodBeamModel", "bears", "(III)Z"⟩, 51) := ⟨⟨by decide +kernel, by decide +kernel⟩, List.mem_of_getElem? (i := 848) (by decide +kernel), List.mem_of_getElem? (i := 1183) (by decide +kernel), List.mem_of_getElem? (i := 1184) (by decide +kernel)⟩
theorem lw_p57 : lw_okq (⟨"RodBeamModel", "fails", "(I)I"⟩, 51) := ⟨⟨by decide +kernel, by decide +kernel⟩, List.mem_of_getElem? (i := 848) (by decide +kernel), List.mem_of_getElem? (i := 1199) (by decide +kernel), List.mem_of_getElem? (i := 1200) (by decide +kernel)⟩
theorem lw_p58 : lw_okq (⟨"RodBeamModel", "choose", "(I)Z"⟩, 51) := ⟨⟨by decide +kernel, by decide +kernel⟩, List.mem_of_getElem? (i := 848) (by decide +kernel), List.mem_of_getElem? (i := 1211) (by decide +kernel), List.mem_of_getElem? (i := 1212) (by decide +kernel)⟩
theorem lw_p59 : lw_okq (⟨"RodBeamModel", "isSpan", "(I)Z"⟩, 51) := ⟨⟨by decide +kernel, by decide +kernel⟩, List.mem_of_getElem? (i := 848) (by decide +kernel), List.mem_of_getElem? (i := 1239) (by decide +kernel), List.mem_of_getElem? (i := 1240) (by decide +kernel)⟩
theorem lw_p60 : lw_okq (⟨"RodBeamModel", "timesOf", "(II)V"⟩, 51) := ⟨⟨by decide +kernel, by decide +kernel⟩, List.mem_of_getElem? (i := 848) (by decide +kernel), List.mem_of_getElem? (i := 1247) (by decide +kernel), List.mem_of_getElem? (i := 1248) (by decide +kernel)⟩
theorem lw_p61 : lw_okq (⟨"RodBeamModel", "gather", "(II)V"⟩, 51) := ⟨⟨by decide +kernel, by decide +kernel⟩, List.mem_of_getElem? (i := 848) (by decide +kernel), List.mem_of_getElem? (i := 1251) (by decide +kernel), List.mem_of_getElem? (i := 1252) (by decide +kernel)⟩
theorem lw_p62 : lw_okq (⟨"RodBeamModel", "strengthOf", "(IZ)V"⟩, 51) := ⟨⟨by decide +kernel, by decide +kernel⟩, List.mem_of_getElem? (i := 848) (by decide +kernel), List.mem_of_getElem? (i := 1255) (by decide +kernel), List.mem_of_getElem? (i := 1256) (by decide +kernel)⟩
theorem lw_p63 : lw_okq (⟨"RodBeamModel", "hogOf", "(I)V"⟩, 51) := ⟨⟨by decide +kernel, by decide +kernel⟩, List.mem_of_getElem? (i := 848) (by decide +kernel), List.mem_of_getElem? (i := 1259) (by decide +kernel), List.mem_of_getElem? (i := 1260) (by decide +kernel)⟩
def lw_privs_4 : List (MethodName × Nat) := [(⟨"RodBeamModel", "divideShort", "(I)V"⟩, 51), (⟨"RodBeamModel", "step", "(II)I"⟩, 51), (⟨"RodBeamModel", "divided", "(II)I"⟩, 51), (⟨"RodBeamModel", "sign", "(I)I"⟩, 51), (⟨"RodBeamModel", "turned", "(I)I"⟩, 51), (⟨"RodBeamModel", "copy", "(I)I"⟩, 51), (⟨"RodBeamModel", "tellsNumber", "(I)V"⟩, 51), (⟨"RodBeamModel", "tells0", "(I)V"⟩, 51), (⟨"RodBeamModel", "bears", "(III)Z"⟩, 51), (⟨"RodBeamModel", "fails", "(I)I"⟩, 51), (⟨"RodBeamModel", "choose", "(I)Z"⟩, 51), (⟨"RodBeamModel", "isSpan", "(I)Z"⟩, 51), (⟨"RodBeamModel", "timesOf", "(II)V"⟩, 51), (⟨"RodBeamModel", "gather", "(II)V"⟩, 51), (⟨"RodBeamModel", "strengthOf", "(IZ)V"⟩, 51), (⟨"RodBeamModel", "hogOf", "(I)V"⟩, 51)]
theorem lw_r4 : ∀ q ∈ lw_privs_4, lw_okq q := List.forall_mem_cons.mpr ⟨lw_p48, List.forall_mem_cons.mpr ⟨lw_p49, List.forall_mem_cons.mpr ⟨lw_p50, List.forall_mem_cons.mpr ⟨lw_p51, List.forall_mem_cons.mpr ⟨lw_p52, List.forall_mem_cons.mpr ⟨lw_p53, List.forall_mem_cons.mpr ⟨lw_p54, List.forall_mem_cons.mpr ⟨lw_p55, List.forall_mem_cons.mpr ⟨lw_p56, List.forall_mem_cons.mpr ⟨lw_p57, List.forall_mem_cons.mpr ⟨lw_p58, List.forall_mem_cons.mpr ⟨lw_p59, List.forall_mem_cons.mpr ⟨lw_p60, List.forall_mem_cons.mpr ⟨lw_p61, List.forall_mem_cons.mpr ⟨lw_p62, List.forall_mem_cons.mpr ⟨lw_p63, fun _ h => absurd h List.not_mem_nil⟩⟩⟩⟩⟩⟩⟩⟩⟩⟩⟩⟩⟩⟩⟩⟩
theorem lw_p64 : lw_okq (⟨"RodBeamModel", "less3", "(JJJJ)Z"⟩, 51) := ⟨⟨by decide +kernel, by decide +kernel⟩, List.mem_of_getElem? (i := 848) (by decide +kernel), List.mem_of_getElem? (i := 1263) (by decide +kernel), List.mem_of_getElem? (i := 1264) (by decide +kernel)⟩
theorem lw_p65 : lw_okq (⟨"RodBeamModel", "product", "(II)I"⟩, 51) := ⟨⟨by decide +kernel, by decide +kernel⟩, List.mem_of_getElem? (i := 848) (by decide +kernel), List.mem_of_getElem? (i := 1267) (by decide +kernel), List.mem_of_getElem? (i := 1268) (by decide +kernel)⟩
theorem lw_p66 : lw_okq (⟨"RodBeamModel", "less", "(II)I"⟩, 51) := ⟨⟨by decide +kernel, by decide +kernel⟩, List.mem_of_getElem? (i := 848) (by decide +kernel), List.mem_of_getElem? (i := 1271) (by decide +kernel), List.mem_of_getElem? (i := 1272) (by decide +kernel)⟩
theorem lw_p67 : lw_okq (⟨"RodBeamModel", "sum", "(II)I"⟩, 51) := ⟨⟨by decide +kernel, by decide +kernel⟩, List.mem_of_getElem? (i := 848) (by decide +kernel), List.mem_of_getElem? (i := 1275) (by decide +kernel), List.mem_of_getElem? (i := 1276) (by decide +kernel)⟩
theorem lw_p68 : lw_okq (⟨"RodBeamModel", "finds", "()Z"⟩, 51) := ⟨⟨by decide +kernel, by decide +kernel⟩, List.mem_of_getElem? (i := 848) (by decide +kernel), List.mem_of_getElem? (i := 1283) (by decide +kernel), List.mem_of_getElem? (i := 1284) (by decide +kernel)⟩
theorem lw_p69 : lw_okq (⟨"RodBeamModel", "held", "(I)I"⟩, 51) := ⟨⟨by decide +kernel, by decide +kernel⟩, List.mem_of_getElem? (i := 848) (by decide +kernel), List.mem_of_getElem? (i := 1287) (by decide +kernel), List.mem_of_getElem? (i := 1288) (by decide +kernel)⟩
theorem lw_p70 : lw_okq (⟨"RodBeamModel", "keep", "(II)V"⟩, 51) := ⟨⟨by decide +kernel, by decide +kernel⟩, List.mem_of_getElem? (i := 848) (by decide +kernel), List.mem_of_getElem? (i := 1291) (by decide +kernel), List.mem_of_getElem? (i := 1292) (by decide +kernel)⟩
def lw_privs_5 : List (MethodName × Nat) := [(⟨"RodBeamModel", "less3", "(JJJJ)Z"⟩, 51), (⟨"RodBeamModel", "product", "(II)I"⟩, 51), (⟨"RodBeamModel", "less", "(II)I"⟩, 51), (⟨"RodBeamModel", "sum", "(II)I"⟩, 51), (⟨"RodBeamModel", "finds", "()Z"⟩, 51), (⟨"RodBeamModel", "held", "(I)I"⟩, 51), (⟨"RodBeamModel", "keep", "(II)V"⟩, 51)]
theorem lw_r5 : ∀ q ∈ lw_privs_5, lw_okq q := List.forall_mem_cons.mpr ⟨lw_p64, List.forall_mem_cons.mpr ⟨lw_p65, List.forall_mem_cons.mpr ⟨lw_p66, List.forall_mem_cons.mpr ⟨lw_p67, List.forall_mem_cons.mpr ⟨lw_p68, List.forall_mem_cons.mpr ⟨lw_p69, List.forall_mem_cons.mpr ⟨lw_p70, fun _ h => absurd h List.not_mem_nil⟩⟩⟩⟩⟩⟩⟩
def lw_privs : List (MethodName × Nat) := lw_privs_1 ++ (lw_privs_2 ++ (lw_privs_3 ++ (lw_privs_4 ++ (lw_privs_5))))
def lw_tbl : List Cond := k2_sels lw_privs ++ tables_1
theorem lw_privs_ok : ∀ q ∈ lw_privs, lw_okq q := by
  show ∀ q ∈ lw_privs_1 ++ (lw_privs_2 ++ (lw_privs_3 ++ (lw_privs_4 ++ (lw_privs_5)))), lw_okq q
  exact List.forall_mem_append.mpr ⟨lw_r1, List.forall_mem_append.mpr ⟨lw_r2, List.forall_mem_append.mpr ⟨lw_r3, List.forall_mem_append.mpr ⟨lw_r4, lw_r5⟩⟩⟩⟩
-- ===== end of PART A; then your names; then what follows =====
/-! THE CLAIM OUT OF ONE WALK OF THE LAW'S BODY. Your part is whole_start (and what it stands on); all else here is the same for every law, but numbers. -/
def R_law : String := "RodBeamLaw"
def lw_P (b : Addr) (xs : List Int32) (args : Array Value) (s : State) : Prop := args = #[.ref b] ∧ s.IntsAt b xs ∧ xs.length ≤ 2560 ∧ (Jvm.Cond.and given_1 narrow_1).before args s = true
def lw_Q (_ : Array Value) (s : State) (o : Outcome) (t : State) : Prop := o = .returned (some (.int 1)) ∧ Framed s o t [] 600000 7302250
def lw_Z (below : List Frame) (a : Array Value) (s : State) : State → Prop := fun t => ∃ o, t.status = .running ∧ Ended t below o ∧ lw_Q a s o t
/-- the law's own end, with 1 on the stack, nothing written that was there before, its room as the claim has it -/
theorem lw_ret {p : Program} {l : Launch} {e : Env} {s : State} {m : MethodId} {below : List Frame} {meth : Method} {c : Code} {b : Nat} (hx : p.tables.exec = Jvm.exec) (hb : c.code = code) (hr : meth.sig.returnType = ret) (hlocks : meth.locks = false) {pc : Nat} {H : Heap} {ls : Array Slot} (hdg : decode code pc = .ok (.ireturn, 1)) : W p l e room_1 s m #[Value.ref b] below meth c H [] 600000 7302250 (lw_Z below #[Value.ref b] s) (F0 m pc ls [.int 1]) := by
  intro T hT X
  obtain ⟨fs, hret, hrun, hended, hW, hframe⟩ := X.leave (v := some (.int 1)) (hlocks := hlocks) (fun h => by rw [hr] at h; cases h)
  have hmeth' : T.vm.method? m = some meth := X.method'
  refine ⟨T.setFrames fs, ?_, .returned (some (.int 1)), hrun, hended, rfl, ⟨_, rfl⟩, hW, hframe⟩
  jvm_step X.here [X.here.top, hx, hb, hdg, hmeth', hr, ret, narrow_b1]
  (try refine ⟨rfl, ?_⟩); (try refine ⟨rfl, ?_⟩)
  first | (intro acts; rw [hret _ acts rfl rfl rfl]) | rw [hret _ _ rfl rfl rfl]
  exact Steps.refl _
/-- what holds at the law's entry: the machine, the code, the tables' words (any of lw_tbl by 'hts w (by decide +kernel)'), the script of L ints xs at the cell b, what the Statement gives of the start (any of its parts by flat_of_before) -/
def lw_At (p : Program) (s : State) (m : MethodId) (meth : Method) (c : Code) (b L : Nat) (xs : Nat → Int32) : Prop :=
  p.tables.exec = Jvm.exec ∧ c.code = code ∧ meth.sig.returnType = ret ∧ c.maxLocals = 4 ∧ s.vm.findClass R_law = some m.cls ∧ (∀ w ∈ lw_tbl, w.before #[Value.ref b] s = true) ∧ va_X b L xs s s.heap ∧ b < s.heap.size ∧ meth.locks = false ∧ (Jvm.Cond.and given_1 narrow_1).before #[Value.ref b] s = true
end
section
def RX0 : String := "RodBeam$Beam"
def TX0 : u_T := fun k => match k with
  | 0 => ("RodBeam$Beam", "count", "I", false)
  | 1 => ("RodBeam$Beam", "spans", "[LRodBeam$Span;", true)
  | 2 => ("RodBeam$Beam", "held", "[Z", true)
  | 3 => ("RodBeam$Beam", "here", "LRodBeam$Ratio;", true)
  | 4 => ("RodBeam$Beam", "least", "LRodBeam$Ratio;", true)
  | 5 => ("RodBeam$Beam", "leastSpan", "I", false)
  | 6 => ("RodBeam$Beam", "leastLoad", "I", false)
  | 7 => ("RodBeam$Beam", "walk", "LRodBeam$Walk;", true)
  | 8 => ("RodBeam$Beam", "sum", "LRodBeam$Share;", true)
  | 9 => ("RodBeam$Beam", "left", "LRodBeam$Share;", true)
  | 10 => ("RodBeam$Beam", "right", "LRodBeam$Share;", true)
  | _ => ("RodBeam$Beam", "other", "LRodBeam$Share;", true)
def tyX0 : Nat → FieldType := fun k => match k with
  | 0 => .int
  | 1 => .array (.object "RodBeam$Span")
  | 2 => .array .boolean
  | 3 => .object "RodBeam$Ratio"
  | 4 => .object "RodBeam$Ratio"
  | 5 => .int
  | 6 => .int
  | 7 => .object "RodBeam$Walk"
  | 8 => .object "RodBeam$Share"
  | 9 => .object "RodBeam$Share"
  | 10 => .object "RodBeam$Share"
  | _ => .object "RodBeam$Share"
theorem nmX0 : ∀ a, a < 12 → ∀ b, b < 12 → a ≠ b → (TX0 a).2.1 ≠ (TX0 b).2.1 := by decide +kernel
theorem tyX0_ok : ∀ k, k < 12 → parseFieldDescriptor (TX0 k).2.2.1 = some (tyX0 k) := by decide +kernel
abbrev cX0_init : ByteArray := prog_2_method_1_code
def yX0_init : MethodName := ⟨RX0, "<init>", "()V"⟩
abbrev cX0_addSpan : ByteArray := prog_2_method_2_code
def yX0_addSpan : MethodName := ⟨RX0, "addSpan", "(II)I"⟩
abbrev cX0_reckonLeast : ByteArray := prog_2_method_3_code
def yX0_reckonLeast : MethodName := ⟨RX0, "reckonLeast", "([LRodBeam$Section;)Z"⟩
abbrev cX0_reckon : ByteArray := prog_2_method_4_code
def yX0_reckon : MethodName := ⟨RX0, "reckon", "([LRodBeam$Section;II)V"⟩
abbrev cX0_putSag : ByteArray := prog_2_method_5_code
def yX0_putSag : MethodName := ⟨RX0, "putSag", "(LRodBeam$Section;LRodBeam$Share;)V"⟩
abbrev cX0_putHog : ByteArray := prog_2_method_6_code
def yX0_putHog : MethodName := ⟨RX0, "putHog", "(LRodBeam$Section;LRodBeam$Share;)V"⟩
abbrev cX0_putSupport : ByteArray := prog_2_method_7_code
def yX0_putSupport : MethodName := ⟨RX0, "putSupport", "([LRodBeam$Section;ILRodBeam$Share;)V"⟩
def RX1 : String := "RodBeam$Chooser"
def TX1 : u_T := fun k => match k with
  | 0 => ("RodBeam$Chooser", "walk", "LRodBeam$Walk;", true)
  | 1 => ("RodBeam$Chooser", "asks", "I", false)
  | 2 => ("RodBeam$Chooser", "askPush", "[I", true)
  | 3 => ("RodBeam$Chooser", "askBending", "[I", true)
  | 4 => ("RodBeam$Chooser", "askHigh", "[Z", true)
  | 5 => ("RodBeam$Chooser", "strongest", "I", false)
  | 6 => ("RodBeam$Chooser", "trial", "[I", true)
  | _ => ("RodBeam$Chooser", "pick", "[I", true)
def tyX1 : Nat → FieldType := fun k => match k with
  | 0 => .object "RodBeam$Walk"
  | 1 => .int
  | 2 => .array .int
  | 3 => .array .int
  | 4 => .array .boolean
  | 5 => .int
  | 6 => .array .int
  | _ => .array .int
theorem nmX1 : ∀ a, a < 8 → ∀ b, b < 8 → a ≠ b → (TX1 a).2.1 ≠ (TX1 b).2.1 := by decide +kernel
theorem tyX1_ok : ∀ k, k < 8 → parseFieldDescriptor (TX1 k).2.2.1 = some (tyX1 k) := by decide +kernel
abbrev cX1_init : ByteArray := prog_3_method_1_code
def yX1_init : MethodName := ⟨RX1, "<init>", "()V"⟩
abbrev cX1_findBest : ByteArray := prog_3_method_2_code
def yX1_findBest : MethodName := ⟨RX1, "findBest", "(LRodBeam$Section;LRodBeam$Pairs;LRodBeam$Sizes;)Z"⟩
abbrev cX1_listAsks : ByteArray := prog_3_method_3_code
def yX1_listAsks : MethodName := ⟨RX1, "listAsks", "(LRodBeam$Section;LRodBeam$Pairs;)V"⟩
abbrev cX1_listAsk : ByteArray := prog_3_method_4_code
def yX1_listAsk : MethodName := ⟨RX1, "listAsk", "(LRodBeam$Section;IIZ)V"⟩
abbrev cX1_bearsAll : ByteArray := prog_3_method_5_code
def yX1_bearsAll : MethodName := ⟨RX1, "bearsAll", "(LRodBeam$Section;)Z"⟩
abbrev cX1_putFirst : ByteArray := prog_3_method_6_code
def yX1_putFirst : MethodName := ⟨RX1, "putFirst", "(I)V"⟩
abbrev cX1_choose : ByteArray := prog_3_method_7_code
def yX1_choose : MethodName := ⟨RX1, "choose", "(LRodBeam$Section;LRodBeam$Sizes;II)V"⟩
abbrev cX1_attempt : ByteArray := prog_3_method_8_code
def yX1_attempt : MethodName := ⟨RX1, "attempt", "(LRodBeam$Section;LRodBeam$Sizes;III)V"⟩
abbrev cX1_keep : ByteArray := prog_3_method_9_code
def yX1_keep : MethodName := ⟨RX1, "keep", "(LRodBeam$Section;I)V"⟩
def RX2 : String := "RodBeam$Pairs"
def TX2 : u_T := fun k => match k with
  | 0 => ("RodBeam$Pairs", "count", "I", false)
  | 1 => ("RodBeam$Pairs", "push", "[I", true)
  | _ => ("RodBeam$Pairs", "bending", "[I", true)
def tyX2 : Nat → FieldType := fun k => match k with
  | 0 => .int
  | 1 => .array .int
  | _ => .array .int
theorem nmX2 : ∀ a, a < 3 → ∀ b, b < 3 → a ≠ b → (TX2 a).2.1 ≠ (TX2 b).2.1 := by decide +kernel
theorem tyX2_ok : ∀ k, k < 3 → parseFieldDescriptor (TX2 k).2.2.1 = some (tyX2 k) := by decide +kernel
abbrev cX2_init : ByteArray := prog_4_method_1_code
def yX2_init : MethodName := ⟨RX2, "<init>", "()V"⟩
abbrev cX2_add : ByteArray := prog_4_method_2_code
def yX2_add : MethodName := ⟨RX2, "add", "(II)I"⟩
def RX3 : String := "RodBeam$Ratio"
def TX3 : u_T := fun k => match k with
  | 0 => ("RodBeam$Ratio", "top", "LRodBeam$Whole;", true)
  | 1 => ("RodBeam$Ratio", "bottom", "LRodBeam$Whole;", true)
  | 2 => ("RodBeam$Ratio", "one", "LRodBeam$Whole;", true)
  | 3 => ("RodBeam$Ratio", "two", "LRodBeam$Whole;", true)
  | _ => ("RodBeam$Ratio", "three", "LRodBeam$Whole;", true)
def tyX3 : Nat → FieldType := fun k => match k with
  | 0 => .object "RodBeam$Whole"
  | 1 => .object "RodBeam$Whole"
  | 2 => .object "RodBeam$Whole"
  | 3 => .object "RodBeam$Whole"
  | _ => .object "RodBeam$Whole"
theorem nmX3 : ∀ a, a < 5 → ∀ b, b < 5 → a ≠ b → (TX3 a).2.1 ≠ (TX3 b).2.1 := by decide +kernel
theorem tyX3_ok : ∀ k, k < 5 → parseFieldDescriptor (TX3 k).2.2.1 = some (tyX3 k) := by decide +kernel
abbrev cX3_init : ByteArray := prog_5_method_1_code
def yX3_init : MethodName := ⟨RX3, "<init>", "()V"⟩
abbrev cX3_put : ByteArray := prog_5_method_2_code
def yX3_put : MethodName := ⟨RX3, "put", "(JJ)V"⟩
abbrev cX3_copy : ByteArray := prog_5_method_3_code
def yX3_copy : MethodName := ⟨RX3, "copy", "(LRodBeam$Ratio;)V"⟩
abbrev cX3_putSum : ByteArray := prog_5_method_4_code
def yX3_putSum : MethodName := ⟨RX3, "putSum", "(LRodBeam$Share;LRodBeam$Share;)V"⟩
abbrev cX3_divide : ByteArray := prog_5_method_5_code
def yX3_divide : MethodName := ⟨RX3, "divide", "(J)V"⟩
abbrev cX3_isUnder : ByteArray := prog_5_method_6_code
def yX3_isUnder : MethodName := ⟨RX3, "isUnder", "(LRodBeam$Ratio;)Z"⟩
def RX4 : String := "RodBeam$Section"
def TX4 : u_T := fun k => match k with
  | 0 => ("RodBeam$Section", "stoneStrength", "I", false)
  | 1 => ("RodBeam$Section", "middle", "I", false)
  | 2 => ("RodBeam$Section", "stonePush", "I", false)
  | 3 => ("RodBeam$Section", "bands", "I", false)
  | 4 => ("RodBeam$Section", "bandWidth", "[I", true)
  | 5 => ("RodBeam$Section", "bandFrom", "[I", true)
  | 6 => ("RodBeam$Section", "bandTo", "[I", true)
  | 7 => ("RodBeam$Section", "rods", "I", false)
  | 8 => ("RodBeam$Section", "rodHeight", "[I", true)
  | 9 => ("RodBeam$Section", "rodStrength", "[I", true)
  | 10 => ("RodBeam$Section", "edges", "I", false)
  | 11 => ("RodBeam$Section", "edge", "[I", true)
  | 12 => ("RodBeam$Section", "density", "[I", true)
  | 13 => ("RodBeam$Section", "edgeOfRod", "[I", true)
  | 14 => ("RodBeam$Section", "bestKnown", "Z", false)
  | 15 => ("RodBeam$Section", "bestPossible", "Z", false)
  | 16 => ("RodBeam$Section", "bestPrice", "I", false)
  | _ => ("RodBeam$Section", "bestPick", "[I", true)
def tyX4 : Nat → FieldType := fun k => match k with
  | 0 => .int
  | 1 => .int
  | 2 => .int
  | 3 => .int
  | 4 => .array .int
  | 5 => .array .int
  | 6 => .array .int
  | 7 => .int
  | 8 => .array .int
  | 9 => .array .int
  | 10 => .int
  | 11 => .array .int
  | 12 => .array .int
  | 13 => .array .int
  | 14 => .boolean
  | 15 => .boolean
  | 16 => .int
  | _ => .array .int
theorem nmX4 : ∀ a, a < 18 → ∀ b, b < 18 → a ≠ b → (TX4 a).2.1 ≠ (TX4 b).2.1 := by decide +kernel
theorem tyX4_ok : ∀ k, k < 18 → parseFieldDescriptor (TX4 k).2.2.1 = some (tyX4 k) := by decide +kernel
abbrev cX4_init : ByteArray := prog_6_method_1_code
def yX4_init : MethodName := ⟨RX4, "<init>", "()V"⟩
abbrev cX4_begin : ByteArray := prog_6_method_2_code
def yX4_begin : MethodName := ⟨RX4, "begin", "(II)V"⟩
abbrev cX4_addBand : ByteArray := prog_6_method_3_code
def yX4_addBand : MethodName := ⟨RX4, "addBand", "(III)I"⟩
abbrev cX4_addRod : ByteArray := prog_6_method_4_code
def yX4_addRod : MethodName := ⟨RX4, "addRod", "(II)I"⟩
abbrev cX4_area : ByteArray := prog_6_method_5_code
def yX4_area : MethodName := ⟨RX4, "area", "()I"⟩
abbrev cX4_rodsTogether : ByteArray := prog_6_method_6_code
def yX4_rodsTogether : MethodName := ⟨RX4, "rodsTogether", "()I"⟩
abbrev cX4_widthAbove : ByteArray := prog_6_method_7_code
def yX4_widthAbove : MethodName := ⟨RX4, "widthAbove", "(I)I"⟩
abbrev cX4_findEdges : ByteArray := prog_6_method_8_code
def yX4_findEdges : MethodName := ⟨RX4, "findEdges", "()V"⟩
abbrev cX4_isEdge : ByteArray := prog_6_method_9_code
def yX4_isEdge : MethodName := ⟨RX4, "isEdge", "(I)Z"⟩
abbrev cX4_placeRods : ByteArray := prog_6_method_10_code
def yX4_placeRods : MethodName := ⟨RX4, "placeRods", "(II)V"⟩
def RX5 : String := "RodBeam$Share"
def TX5 : u_T := fun k => match k with
  | 0 => ("RodBeam$Share", "top", "J", false)
  | _ => ("RodBeam$Share", "bottom", "J", false)
def tyX5 : Nat → FieldType := fun k => match k with
  | 0 => .long
  | _ => .long
theorem nmX5 : ∀ a, a < 2 → ∀ b, b < 2 → a ≠ b → (TX5 a).2.1 ≠ (TX5 b).2.1 := by decide +kernel
theorem tyX5_ok : ∀ k, k < 2 → parseFieldDescriptor (TX5 k).2.2.1 = some (tyX5 k) := by decide +kernel
abbrev cX5_init : ByteArray := prog_7_method_1_code
def yX5_init : MethodName := ⟨RX5, "<init>", "()V"⟩
abbrev cX5_put : ByteArray := prog_7_method_2_code
def yX5_put : MethodName := ⟨RX5, "put", "(JJ)V"⟩
abbrev cX5_shorten : ByteArray := prog_7_method_3_code
def yX5_shorten : MethodName := ⟨RX5, "shorten", "()V"⟩
abbrev cX5_scale : ByteArray := prog_7_method_4_code
def yX5_scale : MethodName := ⟨RX5, "scale", "(J)V"⟩
abbrev cX5_plus : ByteArray := prog_7_method_5_code
def yX5_plus : MethodName := ⟨RX5, "plus", "(LRodBeam$Share;)V"⟩
abbrev cX5_isUnder : ByteArray := prog_7_method_6_code
def yX5_isUnder : MethodName := ⟨RX5, "isUnder", "(LRodBeam$Share;)Z"⟩
def RX6 : String := "RodBeam$Sizes"
def TX6 : u_T := fun k => match k with
  | 0 => ("RodBeam$Sizes", "count", "I", false)
  | 1 => ("RodBeam$Sizes", "strengths", "[I", true)
  | _ => ("RodBeam$Sizes", "prices", "[I", true)
def tyX6 : Nat → FieldType := fun k => match k with
  | 0 => .int
  | 1 => .array .int
  | _ => .array .int
theorem nmX6 : ∀ a, a < 3 → ∀ b, b < 3 → a ≠ b → (TX6 a).2.1 ≠ (TX6 b).2.1 := by decide +kernel
theorem tyX6_ok : ∀ k, k < 3 → parseFieldDescriptor (TX6 k).2.2.1 = some (tyX6 k) := by decide +kernel
abbrev cX6_init : ByteArray := prog_8_method_1_code
def yX6_init : MethodName := ⟨RX6, "<init>", "()V"⟩
abbrev cX6_add : ByteArray := prog_8_method_2_code
def yX6_add : MethodName := ⟨RX6, "add", "(II)I"⟩
abbrev cX6_strengthOf : ByteArray := prog_8_method_3_code
def yX6_strengthOf : MethodName := ⟨RX6, "strengthOf", "(I)I"⟩
abbrev cX6_priceOf : ByteArray := prog_8_method_4_code
def yX6_priceOf : MethodName := ⟨RX6, "priceOf", "(I)I"⟩
abbrev cX6_strongest : ByteArray := prog_8_method_5_code
def yX6_strongest : MethodName := ⟨RX6, "strongest", "()I"⟩
abbrev cX6_isIdle : ByteArray := prog_8_method_6_code
def yX6_isIdle : MethodName := ⟨RX6, "isIdle", "(I)Z"⟩
def RX7 : String := "RodBeam$Span"
def TX7 : u_T := fun k => match k with
  | 0 => ("RodBeam$Span", "length", "I", false)
  | 1 => ("RodBeam$Span", "section", "I", false)
  | 2 => ("RodBeam$Span", "loads", "I", false)
  | 3 => ("RodBeam$Span", "place", "[I", true)
  | _ => ("RodBeam$Span", "weight", "[I", true)
def tyX7 : Nat → FieldType := fun k => match k with
  | 0 => .int
  | 1 => .int
  | 2 => .int
  | 3 => .array .int
  | _ => .array .int
theorem nmX7 : ∀ a, a < 5 → ∀ b, b < 5 → a ≠ b → (TX7 a).2.1 ≠ (TX7 b).2.1 := by decide +kernel
theorem tyX7_ok : ∀ k, k < 5 → parseFieldDescriptor (TX7 k).2.2.1 = some (tyX7 k) := by decide +kernel
abbrev cX7_init : ByteArray := prog_9_method_1_code
def yX7_init : MethodName := ⟨RX7, "<init>", "()V"⟩
abbrev cX7_hasLoadAt : ByteArray := prog_9_method_2_code
def yX7_hasLoadAt : MethodName := ⟨RX7, "hasLoadAt", "(I)Z"⟩
abbrev cX7_addLoad : ByteArray := prog_9_method_3_code
def yX7_addLoad : MethodName := ⟨RX7, "addLoad", "(II)I"⟩
abbrev cX7_freeTimesLength : ByteArray := prog_9_method_4_code
def yX7_freeTimesLength : MethodName := ⟨RX7, "freeTimesLength", "(I)J"⟩
def RX8 : String := "RodBeam$Text"
def TX8 : u_T := fun k => match k with
  | 0 => ("RodBeam$Text", "length", "I", false)
  | 1 => ("RodBeam$Text", "bytes", "[I", true)
  | _ => ("RodBeam$Text", "ratio", "LRodBeam$Ratio;", true)
def tyX8 : Nat → FieldType := fun k => match k with
  | 0 => .int
  | 1 => .array .int
  | _ => .object "RodBeam$Ratio"
theorem nmX8 : ∀ a, a < 3 → ∀ b, b < 3 → a ≠ b → (TX8 a).2.1 ≠ (TX8 b).2.1 := by decide +kernel
theorem tyX8_ok : ∀ k, k < 3 → parseFieldDescriptor (TX8 k).2.2.1 = some (tyX8 k) := by decide +kernel
abbrev cX8_init : ByteArray := prog_10_method_1_code
def yX8_init : MethodName := ⟨RX8, "<init>", "()V"⟩
abbrev cX8_writeShare : ByteArray := prog_10_method_2_code
def yX8_writeShare : MethodName := ⟨RX8, "writeShare", "(LRodBeam$Share;)V"⟩
abbrev cX8_writeRatio : ByteArray := prog_10_method_3_code
def yX8_writeRatio : MethodName := ⟨RX8, "writeRatio", "(ZLRodBeam$Ratio;)V"⟩
abbrev cX8_writeWhole : ByteArray := prog_10_method_4_code
def yX8_writeWhole : MethodName := ⟨RX8, "writeWhole", "(LRodBeam$Whole;)V"⟩
abbrev cX8_write : ByteArray := prog_10_method_5_code
def yX8_write : MethodName := ⟨RX8, "write", "(C)V"⟩
def RX9 : String := "RodBeam$Walk"
def TX9 : u_T := fun k => match k with
  | 0 => ("RodBeam$Walk", "bent", "LRodBeam$Share;", true)
  | 1 => ("RodBeam$Walk", "reached", "LRodBeam$Share;", true)
  | 2 => ("RodBeam$Walk", "room", "[I", true)
  | 3 => ("RodBeam$Walk", "leastPush", "I", false)
  | 4 => ("RodBeam$Walk", "mostPush", "I", false)
  | _ => ("RodBeam$Walk", "startTwice", "J", false)
def tyX9 : Nat → FieldType := fun k => match k with
  | 0 => .object "RodBeam$Share"
  | 1 => .object "RodBeam$Share"
  | 2 => .array .int
  | 3 => .int
  | 4 => .int
  | _ => .long
theorem nmX9 : ∀ a, a < 6 → ∀ b, b < 6 → a ≠ b → (TX9 a).2.1 ≠ (TX9 b).2.1 := by decide +kernel
theorem tyX9_ok : ∀ k, k < 6 → parseFieldDescriptor (TX9 k).2.2.1 = some (tyX9 k) := by decide +kernel
abbrev cX9_init : ByteArray := prog_11_method_1_code
def yX9_init : MethodName := ⟨RX9, "<init>", "()V"⟩
abbrev cX9_arm : ByteArray := prog_11_method_2_code
def yX9_arm : MethodName := ⟨RX9, "arm", "(LRodBeam$Section;[I)V"⟩
abbrev cX9_reaches : ByteArray := prog_11_method_3_code
def yX9_reaches : MethodName := ⟨RX9, "reaches", "(I)Z"⟩
abbrev cX9_bearsOn : ByteArray := prog_11_method_4_code
def yX9_bearsOn : MethodName := ⟨RX9, "bearsOn", "(LRodBeam$Section;IIZ)Z"⟩
abbrev cX9_fill : ByteArray := prog_11_method_5_code
def yX9_fill : MethodName := ⟨RX9, "fill", "(LRodBeam$Section;IZ)V"⟩
def RX10 : String := "RodBeam$Whole"
def TX10 : u_T := fun k => match k with
  | _ => ("RodBeam$Whole", "digit", "[J", true)
def tyX10 : Nat → FieldType := fun k => match k with
  | _ => .array .long
theorem nmX10 : ∀ a, a < 1 → ∀ b, b < 1 → a ≠ b → (TX10 a).2.1 ≠ (TX10 b).2.1 := by decide +kernel
theorem tyX10_ok : ∀ k, k < 1 → parseFieldDescriptor (TX10 k).2.2.1 = some (tyX10 k) := by decide +kernel
abbrev cX10_init : ByteArray := prog_12_method_1_code
def yX10_init : MethodName := ⟨RX10, "<init>", "()V"⟩
abbrev cX10_put : ByteArray := prog_12_method_2_code
def yX10_put : MethodName := ⟨RX10, "put", "(J)V"⟩
abbrev cX10_copy : ByteArray := prog_12_method_3_code
def yX10_copy : MethodName := ⟨RX10, "copy", "(LRodBeam$Whole;)V"⟩
abbrev cX10_plus : ByteArray := prog_12_method_4_code
def yX10_plus : MethodName := ⟨RX10, "plus", "(LRodBeam$Whole;)V"⟩
abbrev cX10_product : ByteArray := prog_12_method_5_code
def yX10_product : MethodName := ⟨RX10, "product", "(LRodBeam$Whole;LRodBeam$Whole;)V"⟩
abbrev cX10_restBy : ByteArray := prog_12_method_6_code
def yX10_restBy : MethodName := ⟨RX10, "restBy", "(J)J"⟩
abbrev cX10_divide : ByteArray := prog_12_method_7_code
def yX10_divide : MethodName := ⟨RX10, "divide", "(J)V"⟩
abbrev cX10_isUnder : ByteArray := prog_12_method_8_code
def yX10_isUnder : MethodName := ⟨RX10, "isUnder", "(LRodBeam$Whole;)Z"⟩
def RX11 : String := "RodBeam"
def TX11 : u_T := fun k => match k with
  | 0 => ("RodBeam", "latest", "I", false)
  | 1 => ("RodBeam", "text", "LRodBeam$Text;", true)
  | 2 => ("RodBeam", "sections", "[LRodBeam$Section;", true)
  | 3 => ("RodBeam", "pairs", "LRodBeam$Pairs;", true)
  | 4 => ("RodBeam", "sizes", "LRodBeam$Sizes;", true)
  | 5 => ("RodBeam", "beam", "LRodBeam$Beam;", true)
  | 6 => ("RodBeam", "walk", "LRodBeam$Walk;", true)
  | _ => ("RodBeam", "chooser", "LRodBeam$Chooser;", true)
def tyX11 : Nat → FieldType := fun k => match k with
  | 0 => .int
  | 1 => .object "RodBeam$Text"
  | 2 => .array (.object "RodBeam$Section")
  | 3 => .object "RodBeam$Pairs"
  | 4 => .object "RodBeam$Sizes"
  | 5 => .object "RodBeam$Beam"
  | 6 => .object "RodBeam$Walk"
  | _ => .object "RodBeam$Chooser"
theorem nmX11 : ∀ a, a < 8 → ∀ b, b < 8 → a ≠ b → (TX11 a).2.1 ≠ (TX11 b).2.1 := by decide +kernel
theorem tyX11_ok : ∀ k, k < 8 → parseFieldDescriptor (TX11 k).2.2.1 = some (tyX11 k) := by decide +kernel
abbrev cX11_init : ByteArray := prog_1_method_1_code
def yX11_init : MethodName := ⟨RX11, "<init>", "()V"⟩
abbrev cX11_status : ByteArray := prog_1_method_2_code
def yX11_status : MethodName := ⟨RX11, "status", "()I"⟩
abbrev cX11_out : ByteArray := prog_1_method_3_code
def yX11_out : MethodName := ⟨RX11, "out", "(I)I"⟩
abbrev cX11_stone : ByteArray := prog_1_method_4_code
def yX11_stone : MethodName := ⟨RX11, "stone", "(III)Z"⟩
abbrev cX11_band : ByteArray := prog_1_method_5_code
def yX11_band : MethodName := ⟨RX11, "band", "(IIII)I"⟩
abbrev cX11_rod : ByteArray := prog_1_method_6_code
def yX11_rod : MethodName := ⟨RX11, "rod", "(III)I"⟩
abbrev cX11_change : ByteArray := prog_1_method_7_code
def yX11_change : MethodName := ⟨RX11, "change", "(III)Z"⟩
abbrev cX11_told : ByteArray := prog_1_method_8_code
def yX11_told : MethodName := ⟨RX11, "told", "(II)I"⟩
abbrev cX11_strength : ByteArray := prog_1_method_9_code
def yX11_strength : MethodName := ⟨RX11, "strength", "(II)I"⟩
abbrev cX11_width : ByteArray := prog_1_method_10_code
def yX11_width : MethodName := ⟨RX11, "width", "(II)I"⟩
abbrev cX11_bend : ByteArray := prog_1_method_11_code
def yX11_bend : MethodName := ⟨RX11, "bend", "(IIZ)I"⟩
abbrev cX11_cut : ByteArray := prog_1_method_12_code
def yX11_cut : MethodName := ⟨RX11, "cut", "(IIZ)I"⟩
abbrev cX11_borne : ByteArray := prog_1_method_13_code
def yX11_borne : MethodName := ⟨RX11, "borne", "(III)I"⟩
abbrev cX11_pair : ByteArray := prog_1_method_14_code
def yX11_pair : MethodName := ⟨RX11, "pair", "(II)I"⟩
abbrev cX11_clear : ByteArray := prog_1_method_15_code
def yX11_clear : MethodName := ⟨RX11, "clear", "()Z"⟩
abbrev cX11_safe : ByteArray := prog_1_method_16_code
def yX11_safe : MethodName := ⟨RX11, "safe", "(I)I"⟩
abbrev cX11_size : ByteArray := prog_1_method_17_code
def yX11_size : MethodName := ⟨RX11, "size", "(II)I"⟩
abbrev cX11_best : ByteArray := prog_1_method_18_code
def yX11_best : MethodName := ⟨RX11, "best", "(I)I"⟩
abbrev cX11_chosen : ByteArray := prog_1_method_19_code
def yX11_chosen : MethodName := ⟨RX11, "chosen", "(II)I"⟩
abbrev cX11_take : ByteArray := prog_1_method_20_code
def yX11_take : MethodName := ⟨RX11, "take", "(I)I"⟩
abbrev cX11_span : ByteArray := prog_1_method_21_code
def yX11_span : MethodName := ⟨RX11, "span", "(II)I"⟩
abbrev cX11_away : ByteArray := prog_1_method_22_code
def yX11_away : MethodName := ⟨RX11, "away", "()Z"⟩
abbrev cX11_hold : ByteArray := prog_1_method_23_code
def yX11_hold : MethodName := ⟨RX11, "hold", "(IZ)Z"⟩
abbrev cX11_load : ByteArray := prog_1_method_24_code
def yX11_load : MethodName := ⟨RX11, "load", "(III)I"⟩
abbrev cX11_times : ByteArray := prog_1_method_25_code
def yX11_times : MethodName := ⟨RX11, "times", "(II)I"⟩
abbrev cX11_factor : ByteArray := prog_1_method_26_code
def yX11_factor : MethodName := ⟨RX11, "factor", "()I"⟩
abbrev cX11_weakest : ByteArray := prog_1_method_27_code
def yX11_weakest : MethodName := ⟨RX11, "weakest", "()I"⟩
abbrev cX11_refuse : ByteArray := prog_1_method_28_code
def yX11_refuse : MethodName := ⟨RX11, "refuse", "(I)I"⟩
abbrev cX11_deny : ByteArray := prog_1_method_29_code
def yX11_deny : MethodName := ⟨RX11, "deny", "(I)Z"⟩
abbrev cX11_give : ByteArray := prog_1_method_30_code
def yX11_give : MethodName := ⟨RX11, "give", "(I)I"⟩
abbrev cX11_allow : ByteArray := prog_1_method_31_code
def yX11_allow : MethodName := ⟨RX11, "allow", "()Z"⟩
abbrev cX11_giveShare : ByteArray := prog_1_method_32_code
def yX11_giveShare : MethodName := ⟨RX11, "giveShare", "(LRodBeam$Share;)I"⟩
abbrev cX11_giveRatio : ByteArray := prog_1_method_33_code
def yX11_giveRatio : MethodName := ⟨RX11, "giveRatio", "(LRodBeam$Ratio;)I"⟩
abbrev cX11_isSection : ByteArray := prog_1_method_34_code
def yX11_isSection : MethodName := ⟨RX11, "isSection", "(I)Z"⟩
abbrev cX11_isRod : ByteArray := prog_1_method_35_code
def yX11_isRod : MethodName := ⟨RX11, "isRod", "(II)Z"⟩
abbrev cX11_isSpan : ByteArray := prog_1_method_36_code
def yX11_isSpan : MethodName := ⟨RX11, "isSpan", "(I)Z"⟩
abbrev cX11_isFromTo : ByteArray := prog_1_method_37_code
def yX11_isFromTo : MethodName := ⟨RX11, "isFromTo", "(III)Z"⟩
abbrev cX11_isNear : ByteArray := prog_1_method_38_code
def yX11_isNear : MethodName := ⟨RX11, "isNear", "(I)Z"⟩
abbrev cX11_walkTo : ByteArray := prog_1_method_39_code
def yX11_walkTo : MethodName := ⟨RX11, "walkTo", "(IIZ)I"⟩
abbrev cX11_bears : ByteArray := prog_1_method_40_code
def yX11_bears : MethodName := ⟨RX11, "bears", "(LRodBeam$Section;II)Z"⟩
abbrev cX11_forgetBests : ByteArray := prog_1_method_41_code
def yX11_forgetBests : MethodName := ⟨RX11, "forgetBests", "()V"⟩
abbrev cX11_carryOut : ByteArray := prog_1_method_42_code
def yX11_carryOut : MethodName := ⟨RX11, "carryOut", "(LRodBeam$Section;)I"⟩
abbrev cX11_commonDivisor : ByteArray := prog_1_method_43_code
def yX11_commonDivisor : MethodName := ⟨RX11, "commonDivisor", "(JJ)J"⟩
def RX12 : String := "RodBeamModel"
def TX12 : u_T := fun k => match k with
  | 0 => ("RodBeamModel", "status", "I", false)
  | 1 => ("RodBeamModel", "mem", "[I", true)
  | 2 => ("RodBeamModel", "top", "I", false)
  | 3 => ("RodBeamModel", "left", "[I", true)
  | 4 => ("RodBeamModel", "by", "[I", true)
  | 5 => ("RodBeamModel", "quotient", "[I", true)
  | 6 => ("RodBeamModel", "leftSize", "I", false)
  | 7 => ("RodBeamModel", "quotientSize", "I", false)
  | 8 => ("RodBeamModel", "output", "[I", true)
  | 9 => ("RodBeamModel", "outs", "I", false)
  | 10 => ("RodBeamModel", "f", "[I", true)
  | 11 => ("RodBeamModel", "z", "[I", true)
  | 12 => ("RodBeamModel", "bands", "[I", true)
  | 13 => ("RodBeamModel", "rods", "[I", true)
  | 14 => ("RodBeamModel", "area", "[I", true)
  | 15 => ("RodBeamModel", "widths", "[I", true)
  | 16 => ("RodBeamModel", "rodHeight", "[I", true)
  | 17 => ("RodBeamModel", "rodStrength", "[I", true)
  | 18 => ("RodBeamModel", "use", "[I", true)
  | 19 => ("RodBeamModel", "bendN", "J", false)
  | 20 => ("RodBeamModel", "bendD", "J", false)
  | 21 => ("RodBeamModel", "cutN", "J", false)
  | 22 => ("RodBeamModel", "cutD", "J", false)
  | 23 => ("RodBeamModel", "pairN", "[I", true)
  | 24 => ("RodBeamModel", "pairM", "[I", true)
  | 25 => ("RodBeamModel", "sizeStrength", "[I", true)
  | 26 => ("RodBeamModel", "sizePrice", "[I", true)
  | 27 => ("RodBeamModel", "pairs", "I", false)
  | 28 => ("RodBeamModel", "sizes", "I", false)
  | 29 => ("RodBeamModel", "chosen", "[I", true)
  | 30 => ("RodBeamModel", "least", "I", false)
  | 31 => ("RodBeamModel", "length", "[I", true)
  | 32 => ("RodBeamModel", "sectionOf", "[I", true)
  | 33 => ("RodBeamModel", "loads", "[I", true)
  | 34 => ("RodBeamModel", "loadPlace", "[I", true)
  | 35 => ("RodBeamModel", "loadWeight", "[I", true)
  | 36 => ("RodBeamModel", "isHeld", "[Z", true)
  | 37 => ("RodBeamModel", "spans", "I", false)
  | 38 => ("RodBeamModel", "fn", "J", false)
  | 39 => ("RodBeamModel", "fd", "J", false)
  | 40 => ("RodBeamModel", "timesN0", "J", false)
  | 41 => ("RodBeamModel", "timesN1", "J", false)
  | 42 => ("RodBeamModel", "timesN2", "J", false)
  | 43 => ("RodBeamModel", "timesD0", "J", false)
  | 44 => ("RodBeamModel", "timesD1", "J", false)
  | 45 => ("RodBeamModel", "timesD2", "J", false)
  | 46 => ("RodBeamModel", "freeN", "J", false)
  | 47 => ("RodBeamModel", "up", "I", false)
  | 48 => ("RodBeamModel", "low", "I", false)
  | 49 => ("RodBeamModel", "kept", "[I", true)
  | _ => ("RodBeamModel", "weak", "I", false)
def tyX12 : Nat → FieldType := fun k => match k with
  | 0 => .int
  | 1 => .array .int
  | 2 => .int
  | 3 => .array .int
  | 4 => .array .int
  | 5 => .array .int
  | 6 => .int
  | 7 => .int
  | 8 => .array .int
  | 9 => .int
  | 10 => .array .int
  | 11 => .array .int
  | 12 => .array .int
  | 13 => .array .int
  | 14 => .array .int
  | 15 => .array .int
  | 16 => .array .int
  | 17 => .array .int
  | 18 => .array .int
  | 19 => .long
  | 20 => .long
  | 21 => .long
  | 22 => .long
  | 23 => .array .int
  | 24 => .array .int
  | 25 => .array .int
  | 26 => .array .int
  | 27 => .int
  | 28 => .int
  | 29 => .array .int
  | 30 => .int
  | 31 => .array .int
  | 32 => .array .int
  | 33 => .array .int
  | 34 => .array .int
  | 35 => .array .int
  | 36 => .array .boolean
  | 37 => .int
  | 38 => .long
  | 39 => .long
  | 40 => .long
  | 41 => .long
  | 42 => .long
  | 43 => .long
  | 44 => .long
  | 45 => .long
  | 46 => .long
  | 47 => .int
  | 48 => .int
  | 49 => .array .int
  | _ => .int
theorem nmX12 : ∀ a, a < 51 → ∀ b, b < 51 → a ≠ b → (TX12 a).2.1 ≠ (TX12 b).2.1 := by decide +kernel
theorem tyX12_ok : ∀ k, k < 51 → parseFieldDescriptor (TX12 k).2.2.1 = some (tyX12 k) := by decide +kernel
abbrev cX12_init : ByteArray := prog_14_method_1_code
def yX12_init : MethodName := ⟨RX12, "<init>", "()V"⟩
abbrev cX12_status : ByteArray := prog_14_method_2_code
def yX12_status : MethodName := ⟨RX12, "status", "()I"⟩
abbrev cX12_is : ByteArray := prog_14_method_3_code
def yX12_is : MethodName := ⟨RX12, "is", "(I)Z"⟩
abbrev cX12_refuse : ByteArray := prog_14_method_4_code
def yX12_refuse : MethodName := ⟨RX12, "refuse", "(I)I"⟩
abbrev cX12_places : ByteArray := prog_14_method_5_code
def yX12_places : MethodName := ⟨RX12, "places", "(I)I"⟩
abbrev cX12_sign : ByteArray := prog_14_method_6_code
def yX12_sign : MethodName := ⟨RX12, "sign", "(I)I"⟩
abbrev cX12_room : ByteArray := prog_14_method_7_code
def yX12_room : MethodName := ⟨RX12, "room", "(I)I"⟩
abbrev cX12_done : ByteArray := prog_14_method_8_code
def yX12_done : MethodName := ⟨RX12, "done", "(IIZ)I"⟩
abbrev cX12_whole : ByteArray := prog_14_method_9_code
def yX12_whole : MethodName := ⟨RX12, "whole", "(J)I"⟩
abbrev cX12_copy : ByteArray := prog_14_method_10_code
def yX12_copy : MethodName := ⟨RX12, "copy", "(I)I"⟩
abbrev cX12_turned : ByteArray := prog_14_method_11_code
def yX12_turned : MethodName := ⟨RX12, "turned", "(I)I"⟩
abbrev cX12_compareSizes : ByteArray := prog_14_method_12_code
def yX12_compareSizes : MethodName := ⟨RX12, "compareSizes", "(II)I"⟩
abbrev cX12_sum : ByteArray := prog_14_method_14_code
def yX12_sum : MethodName := ⟨RX12, "sum", "(II)I"⟩
abbrev cX12_less : ByteArray := prog_14_method_15_code
def yX12_less : MethodName := ⟨RX12, "less", "(II)I"⟩
abbrev cX12_product : ByteArray := prog_14_method_16_code
def yX12_product : MethodName := ⟨RX12, "product", "(II)I"⟩
abbrev cX12_divide : ByteArray := prog_14_method_17_code
def yX12_divide : MethodName := ⟨RX12, "divide", "(II)V"⟩
abbrev cX12_divideShort : ByteArray := prog_14_method_18_code
def yX12_divideShort : MethodName := ⟨RX12, "divideShort", "(I)V"⟩
abbrev cX12_step : ByteArray := prog_14_method_19_code
def yX12_step : MethodName := ⟨RX12, "step", "(II)I"⟩
abbrev cX12_divided : ByteArray := prog_14_method_20_code
def yX12_divided : MethodName := ⟨RX12, "divided", "(II)I"⟩
abbrev cX12_common : ByteArray := prog_14_method_21_code
def yX12_common : MethodName := ⟨RX12, "common", "(II)I"⟩
abbrev cX12_put : ByteArray := prog_14_method_22_code
def yX12_put : MethodName := ⟨RX12, "put", "(II)V"⟩
abbrev cX12_out : ByteArray := prog_14_method_23_code
def yX12_out : MethodName := ⟨RX12, "out", "(I)I"⟩
abbrev cX12_tells0 : ByteArray := prog_14_method_24_code
def yX12_tells0 : MethodName := ⟨RX12, "tells0", "(I)V"⟩
abbrev cX12_tellsNumber : ByteArray := prog_14_method_25_code
def yX12_tellsNumber : MethodName := ⟨RX12, "tellsNumber", "(I)V"⟩
abbrev cX12_tells : ByteArray := prog_14_method_26_code
def yX12_tells : MethodName := ⟨RX12, "tells", "(II)I"⟩
abbrev cX12_isSection : ByteArray := prog_14_method_27_code
def yX12_isSection : MethodName := ⟨RX12, "isSection", "(I)Z"⟩
abbrev cX12_stone : ByteArray := prog_14_method_28_code
def yX12_stone : MethodName := ⟨RX12, "stone", "(III)Z"⟩
abbrev cX12_band : ByteArray := prog_14_method_29_code
def yX12_band : MethodName := ⟨RX12, "band", "(IIII)I"⟩
abbrev cX12_rod : ByteArray := prog_14_method_30_code
def yX12_rod : MethodName := ⟨RX12, "rod", "(III)I"⟩
abbrev cX12_isRod : ByteArray := prog_14_method_31_code
def yX12_isRod : MethodName := ⟨RX12, "isRod", "(II)Z"⟩
abbrev cX12_change : ByteArray := prog_14_method_32_code
def yX12_change : MethodName := ⟨RX12, "change", "(III)Z"⟩
abbrev cX12_asTold : ByteArray := prog_14_method_33_code
def yX12_asTold : MethodName := ⟨RX12, "asTold", "(I)V"⟩
abbrev cX12_pulls : ByteArray := prog_14_method_34_code
def yX12_pulls : MethodName := ⟨RX12, "pulls", "()I"⟩
abbrev cX12_greatest : ByteArray := prog_14_method_35_code
def yX12_greatest : MethodName := ⟨RX12, "greatest", "(I)I"⟩
abbrev cX12_told : ByteArray := prog_14_method_36_code
def yX12_told : MethodName := ⟨RX12, "told", "(II)I"⟩
abbrev cX12_strength : ByteArray := prog_14_method_37_code
def yX12_strength : MethodName := ⟨RX12, "strength", "(II)I"⟩
abbrev cX12_width : ByteArray := prog_14_method_38_code
def yX12_width : MethodName := ⟨RX12, "width", "(II)I"⟩
abbrev cX12_at : ByteArray := prog_14_method_39_code
def yX12_at : MethodName := ⟨RX12, "at", "(II)J"⟩
abbrev cX12_go : ByteArray := prog_14_method_40_code
def yX12_go : MethodName := ⟨RX12, "go", "(IJZ)V"⟩
abbrev cX12_found : ByteArray := prog_14_method_41_code
def yX12_found : MethodName := ⟨RX12, "found", "(JJJJ)V"⟩
abbrev cX12_isPush : ByteArray := prog_14_method_42_code
def yX12_isPush : MethodName := ⟨RX12, "isPush", "(II)Z"⟩
abbrev cX12_isNumber : ByteArray := prog_14_method_43_code
def yX12_isNumber : MethodName := ⟨RX12, "isNumber", "(I)Z"⟩
abbrev cX12_wrong : ByteArray := prog_14_method_44_code
def yX12_wrong : MethodName := ⟨RX12, "wrong", "(II)I"⟩
abbrev cX12_bend : ByteArray := prog_14_method_45_code
def yX12_bend : MethodName := ⟨RX12, "bend", "(IIZ)I"⟩
abbrev cX12_cut : ByteArray := prog_14_method_46_code
def yX12_cut : MethodName := ⟨RX12, "cut", "(IIZ)I"⟩
abbrev cX12_bears : ByteArray := prog_14_method_47_code
def yX12_bears : MethodName := ⟨RX12, "bears", "(III)Z"⟩
abbrev cX12_borne : ByteArray := prog_14_method_48_code
def yX12_borne : MethodName := ⟨RX12, "borne", "(III)I"⟩
abbrev cX12_pair : ByteArray := prog_14_method_49_code
def yX12_pair : MethodName := ⟨RX12, "pair", "(II)I"⟩
abbrev cX12_clear : ByteArray := prog_14_method_50_code
def yX12_clear : MethodName := ⟨RX12, "clear", "()Z"⟩
abbrev cX12_fails : ByteArray := prog_14_method_51_code
def yX12_fails : MethodName := ⟨RX12, "fails", "(I)I"⟩
abbrev cX12_safe : ByteArray := prog_14_method_52_code
def yX12_safe : MethodName := ⟨RX12, "safe", "(I)I"⟩
abbrev cX12_size : ByteArray := prog_14_method_53_code
def yX12_size : MethodName := ⟨RX12, "size", "(II)I"⟩
abbrev cX12_choose : ByteArray := prog_14_method_54_code
def yX12_choose : MethodName := ⟨RX12, "choose", "(I)Z"⟩
abbrev cX12_best : ByteArray := prog_14_method_55_code
def yX12_best : MethodName := ⟨RX12, "best", "(I)I"⟩
abbrev cX12_chosen : ByteArray := prog_14_method_56_code
def yX12_chosen : MethodName := ⟨RX12, "chosen", "(II)I"⟩
abbrev cX12_take : ByteArray := prog_14_method_57_code
def yX12_take : MethodName := ⟨RX12, "take", "(I)I"⟩
abbrev cX12_span : ByteArray := prog_14_method_58_code
def yX12_span : MethodName := ⟨RX12, "span", "(II)I"⟩
abbrev cX12_away : ByteArray := prog_14_method_59_code
def yX12_away : MethodName := ⟨RX12, "away", "()Z"⟩
abbrev cX12_hold : ByteArray := prog_14_method_60_code
def yX12_hold : MethodName := ⟨RX12, "hold", "(IZ)Z"⟩
abbrev cX12_isSpan : ByteArray := prog_14_method_61_code
def yX12_isSpan : MethodName := ⟨RX12, "isSpan", "(I)Z"⟩
abbrev cX12_load : ByteArray := prog_14_method_62_code
def yX12_load : MethodName := ⟨RX12, "load", "(III)I"⟩
abbrev cX12_strengthOf : ByteArray := prog_14_method_63_code
def yX12_strengthOf : MethodName := ⟨RX12, "strengthOf", "(IZ)V"⟩
abbrev cX12_hogOf : ByteArray := prog_14_method_64_code
def yX12_hogOf : MethodName := ⟨RX12, "hogOf", "(I)V"⟩
abbrev cX12_less3 : ByteArray := prog_14_method_65_code
def yX12_less3 : MethodName := ⟨RX12, "less3", "(JJJJ)Z"⟩
abbrev cX12_gather : ByteArray := prog_14_method_66_code
def yX12_gather : MethodName := ⟨RX12, "gather", "(II)V"⟩
abbrev cX12_timesOf : ByteArray := prog_14_method_67_code
def yX12_timesOf : MethodName := ⟨RX12, "timesOf", "(II)V"⟩
abbrev cX12_times : ByteArray := prog_14_method_68_code
def yX12_times : MethodName := ⟨RX12, "times", "(II)I"⟩
abbrev cX12_keep : ByteArray := prog_14_method_69_code
def yX12_keep : MethodName := ⟨RX12, "keep", "(II)V"⟩
abbrev cX12_held : ByteArray := prog_14_method_70_code
def yX12_held : MethodName := ⟨RX12, "held", "(I)I"⟩
abbrev cX12_finds : ByteArray := prog_14_method_71_code
def yX12_finds : MethodName := ⟨RX12, "finds", "()Z"⟩
abbrev cX12_factor : ByteArray := prog_14_method_72_code
def yX12_factor : MethodName := ⟨RX12, "factor", "()I"⟩
abbrev cX12_weakest : ByteArray := prog_14_method_73_code
def yX12_weakest : MethodName := ⟨RX12, "weakest", "()I"⟩
def RJ9 : String := "java/lang/Math"
abbrev cJ9_abs_0f7a4 : ByteArray := prog_15_method_59_code
def yJ9_abs_0f7a4 : MethodName := ⟨RJ9, "abs", "(I)I"⟩
abbrev cJ9_abs_067f4 : ByteArray := prog_15_method_61_code
def yJ9_abs_067f4 : MethodName := ⟨RJ9, "abs", "(J)J"⟩
abbrev cJ9_max_7cf53 : ByteArray := prog_15_method_65_code
def yJ9_max_7cf53 : MethodName := ⟨RJ9, "max", "(II)I"⟩
abbrev cJ9_max_f86c9 : ByteArray := prog_15_method_66_code
def yJ9_max_f86c9 : MethodName := ⟨RJ9, "max", "(JJ)J"⟩
abbrev cJ9_min_7cf53 : ByteArray := prog_15_method_69_code
def yJ9_min_7cf53 : MethodName := ⟨RJ9, "min", "(II)I"⟩
abbrev cJ9_min_f86c9 : ByteArray := prog_15_method_70_code
def yJ9_min_f86c9 : MethodName := ⟨RJ9, "min", "(JJ)J"⟩
def RJ10 : String := "java/lang/System"
def RJ7 : String := "java/util/Arrays"
abbrev cJ7_fill_d0a16 : ByteArray := prog_17_method_101_code
def yJ7_fill_d0a16 : MethodName := ⟨RJ7, "fill", "([JJ)V"⟩
abbrev cJ7_fill_53178 : ByteArray := prog_17_method_103_code
def yJ7_fill_53178 : MethodName := ⟨RJ7, "fill", "([II)V"⟩
def RL : String := "RodBeamLaw"
abbrev cL_law : ByteArray := code
def yL_law : MethodName := ⟨RL, "law", "([I)Z"⟩
abbrev vwCl : List vw_C := [(RX0, TX0, 12), (RX1, TX1, 8), (RX2, TX2, 3), (RX3, TX3, 5), (RX4, TX4, 18), (RX5, TX5, 2), (RX6, TX6, 3), (RX7, TX7, 5), (RX8, TX8, 3), (RX9, TX9, 6), (RX10, TX10, 1), (RX11, TX11, 8), (RX12, TX12, 51)]
theorem inX0 : ∀ w ∈ u_ws RX0 TX0 12, w ∈ lw_tbl := by decide +kernel
theorem inX1 : ∀ w ∈ u_ws RX1 TX1 8, w ∈ lw_tbl := by decide +kernel
theorem inX2 : ∀ w ∈ u_ws RX2 TX2 3, w ∈ lw_tbl := by decide +kernel
theorem inX3 : ∀ w ∈ u_ws RX3 TX3 5, w ∈ lw_tbl := by decide +kernel
theorem inX4 : ∀ w ∈ u_ws RX4 TX4 18, w ∈ lw_tbl := by decide +kernel
theorem inX5 : ∀ w ∈ u_ws RX5 TX5 2, w ∈ lw_tbl := by decide +kernel
theorem inX6 : ∀ w ∈ u_ws RX6 TX6 3, w ∈ lw_tbl := by decide +kernel
theorem inX7 : ∀ w ∈ u_ws RX7 TX7 5, w ∈ lw_tbl := by decide +kernel
theorem inX8 : ∀ w ∈ u_ws RX8 TX8 3, w ∈ lw_tbl := by decide +kernel
theorem inX9 : ∀ w ∈ u_ws RX9 TX9 6, w ∈ lw_tbl := by decide +kernel
theorem inX10 : ∀ w ∈ u_ws RX10 TX10 1, w ∈ lw_tbl := by decide +kernel
theorem inX11 : ∀ w ∈ u_ws RX11 TX11 8, w ∈ lw_tbl := by decide +kernel
theorem inX12 : ∀ w ∈ u_ws RX12 TX12 51, w ∈ lw_tbl := by decide +kernel
def fty (ci k : Nat) : FieldType := match ci with
  | 0 => tyX0 k
  | 1 => tyX1 k
  | 2 => tyX2 k
  | 3 => tyX3 k
  | 4 => tyX4 k
  | 5 => tyX5 k
  | 6 => tyX6 k
  | 7 => tyX7 k
  | 8 => tyX8 k
  | 9 => tyX9 k
  | 10 => tyX10 k
  | 11 => tyX11 k
  | _ => tyX12 k
end
section
/-! AN ABSTRACT MACHINE over pure numbers: every value is an Int with a tag (0 int, 1 long, 2 reference), the heap is a function
from (cell, place) to Int beside a list of shapes; cells are numbered as they are made. Fr: a frame's walk; Call: a method's contract. -/
abbrev AV : Type := Nat × Int
abbrev Shp : Type := List (Nat × Nat)
abbrev Mem : Type := Nat → Nat → Int
abbrev MM : Type := MethodName × ByteArray × Nat × Option FieldType
def inI (x : Int) : Prop := -2147483648 ≤ x ∧ x ≤ 2147483647
def inL (x : Int) : Prop := -9223372036854775808 ≤ x ∧ x ≤ 9223372036854775807
def rfv (φ : Nat → Nat) (b : Nat) (x : Int) : Value := if x = -2 then .ref b else if x < 0 then .null else .ref (φ x.toNat)
def toV (φ : Nat → Nat) (b : Nat) (v : AV) : Value := match v.1 with
  | 0 => .int (Int32.ofInt v.2)
  | 1 => .long (Int64.ofInt v.2)
  | _ => rfv φ b v.2
def okV (n : Nat) (v : AV) : Prop := match v.1 with
  | 0 => inI v.2
  | 1 => inL v.2
  | _ => v.2 < n
def ftag (t : FieldType) : Nat := match t with
  | .long => 1
  | .object _ => 2
  | .array _ => 2
  | _ => 0
def tyOk (n : Nat) (t : FieldType) (x : Int) : Prop := match t with
  | .boolean => x = 0 ∨ x = 1
  | .int => inI x
  | .long => inL x
  | .object _ => -1 ≤ x ∧ x < n
  | .array _ => -1 ≤ x ∧ x < n
  | _ => False
def kty (kd k : Nat) : FieldType := if kd < 13 then fty kd k else if kd = 20 then .int else if kd = 21 then .long else if kd = 22 then .boolean else .object ""
def Rng (K : Shp) (H : Mem) : Prop := ∀ (a : Nat) (q : Nat × Nat), K[a]? = some q → ∀ k, k < q.2 → tyOk K.length (kty q.1 k) (H a k)
def refE (φ : Nat → Nat) (x : Int) : Option Nat := if x < 0 then none else some (φ x.toNat)
def cellE (φ : Nat → Nat) (b : Nat) (aC : Nat → ClassId) (q : Nat × Nat) (f : Nat → Int) : va_E :=
  if q.1 < 13 then .inr (q.1, (List.range q.2).map fun k => toV φ b (ftag (fty q.1 k), f k))
  else if q.1 = 21 then .inl (aC 21, q.2, .inr (.inl fun j => Int64.ofInt (f j)))
  else if q.1 = 20 ∨ q.1 = 22 then .inl (aC q.1, q.2, .inl fun j => Int32.ofInt (f j))
  else .inl (aC q.1, q.2, .inr (.inr (.inr (.inr fun j => refE φ (f j)))))
def wsOf (φ : Nat → Nat) (b : Nat) (aC : Nat → ClassId) (K : Shp) (H : Mem) : va_W := K.mapIdx fun a q => (φ a, cellE φ b aC q (H a))
def tysOf (aC : Nat → ClassId) : List (ClassId × FieldType) := [(aC 20, .int), (aC 21, .long), (aC 22, .boolean), (aC 23, .object "RodBeam$Section"), (aC 24, .object "RodBeam$Span")]
def upA (H : Mem) (a : Nat) (f : Nat → Int) : Mem := fun x => if x = a then f else H x
def up1 (f : Nat → Int) (k : Nat) (x : Int) : Nat → Int := fun j => if j = k then x else f j
def lw_good : List Cond := lw_tbl.filter goodWord
def isNest (w : Cond) : Bool := match w with
  | .methodLinkNest _ _ _ _ => true
  | _ => false
def lw_nest : List Cond := lw_tbl.filter isNest
theorem ws_at {φ : Nat → Nat} {b : Nat} {aC : Nat → ClassId} {K : Shp} {H : Mem} {a : Nat} {q : Nat × Nat} (h : K[a]? = some q) : (wsOf φ b aC K H)[a]? = some (φ a, cellE φ b aC q (H a)) := by
  simp [wsOf, List.getElem?_mapIdx, h]
theorem ws_set {φ : Nat → Nat} {b : Nat} {aC : Nat → ClassId} {K : Shp} {H : Mem} {a : Nat} {q : Nat × Nat} {f : Nat → Int} (h : K[a]? = some q) : (wsOf φ b aC K H).set a (φ a, cellE φ b aC q f) = wsOf φ b aC K (upA H a f) := by
  apply List.ext_getElem?
  intro i
  by_cases hi : i = a
  · subst hi
    obtain ⟨hl, he⟩ := List.getElem?_eq_some_iff.mp h
    simp [wsOf, List.getElem?_mapIdx, upA, List.getElem?_set, hl, he]
  · simp [wsOf, List.getElem?_mapIdx, upA, List.getElem?_set, Ne.symm hi, hi]
theorem range_set {N k : Nat} {f : Nat → Value} {v : Value} : ((List.range N).map f).set k v = (List.range N).map fun j => if j = k then v else f j := by
  apply List.ext_getElem?
  intro i
  by_cases hi : i = k
  · subst hi
    by_cases hl : i < N
    · simp [List.getElem?_set, hl]
    · simp [List.getElem?_set, hl]
  · simp [List.getElem?_set, Ne.symm hi]
    cases h : (List.range N)[i]? with
    | none => rfl
    | some j =>
      have : j = i := by
        have := List.getElem?_eq_some_iff.mp h
        obtain ⟨h1, h2⟩ := this
        rw [List.getElem_range] at h2
        exact h2.symm
      subst this
      simp [hi]
/-- what holds of the machine where a method of ours runs -/
def Cx (M : MM) (sc : Option (Nat × (Nat → Int))) (p : Program) (s : State) (m : MethodId) (args : Array Value) (meth : Method) (c : Code) (base b : Nat) (D : va_G) (aC : Nat → ClassId) : Prop :=
  p.tables.exec = Jvm.exec ∧ c.code = M.2.1 ∧ meth.sig.returnType = M.2.2.2 ∧ c.maxLocals = M.2.2.1 ∧ s.vm.findClass M.1.cls = some m.cls ∧ (∀ w ∈ lw_good, w.before args s = true) ∧ (∀ w ∈ lw_nest, va_Nw w s) ∧
  va_K D vwCl (tysOf aC) s ∧ meth.locks = false ∧ meth.name = M.1.name ∧ base ≤ s.heap.size ∧
  (∀ (L : Nat) (xs : Nat → Int), sc = some (L, xs) → va_X b L (fun j => Int32.ofInt (xs j)) s s.heap ∧ b < s.heap.size ∧ b < base ∧ L < 2147483648 ∧ ∀ j, j < L → inI (xs j))
def Rp (base b : Nat) (D : va_G) (aC : Nat → ClassId) (φ : Nat → Nat) (K : Shp) (H : Mem) (Hp : Heap) : Prop :=
  va_P D vwCl (wsOf φ b aC K H) Hp ∧ va_D (fun q => base ≤ q) (wsOf φ b aC K H) ∧ Rng K H
def RetAt (M : MM) (pc : Nat) (r : Option AV) : Prop :=
  (∃ x, r = some (0, x) ∧ inI x ∧ decode M.2.1 pc = .ok (.ireturn, 1) ∧ (M.2.2.2 = some .int ∨ M.2.2.2 = some .boolean ∧ (x = 0 ∨ x = 1))) ∨
  (∃ x, r = some (1, x) ∧ inL x ∧ decode M.2.1 pc = .ok (.lreturn, 1) ∧ M.2.2.2 = some .long) ∨ (r = none ∧ decode M.2.1 pc = .ok (.return_, 1) ∧ M.2.2.2 = none)
def Ret (M : MM) (p : Program) (l : Launch) (e : Env) (R : Room) (s : State) (m : MethodId) (args : Array Value) (below : List Frame) (meth : Method) (c : Code) (base b : Nat) (D : va_G) (aC : Nat → ClassId) (n0 : Nat) (φ0 : Nat → Nat) (QM : State → Prop) (Q : Option AV → Shp → Mem → Prop) : Prop :=
  ∀ (r : Option AV) (K : Shp) (H : Mem) (φ : Nat → Nat) (Hp : Heap) (locs : List Loc) (cells slots pc : Nat) (ls : Array Slot), Q r K H → Rp base b D aC φ K H Hp → va_S (fun q => base ≤ q) s.heap Hp locs → cells ≤ R.cells → slots ≤ R.slots → n0 ≤ K.length → (∀ a, a < n0 → φ a = φ0 a) → RetAt M pc r →
    W p l e R s m args below meth c Hp locs cells slots QM (F0 m pc ls ((r.map (toV φ b)).toList))
/-- A FRAME of method M at pc, with room for d calls one in another, fc cells and fs slots still to be made: it comes to its end, with Q -/
def Fr (M : MM) (d fc fs : Nat) (sc : Option (Nat × (Nat → Int))) (pc : Nat) (ls : List (Nat × AV)) (st : List AV) (K : Shp) (H : Mem) (Q : Option AV → Shp → Mem → Prop) : Prop :=
  ∀ (p : Program) (l : Launch) (e : Env) (R : Room) (s : State) (m : MethodId) (args : Array Value) (below : List Frame) (meth : Method) (c : Code) (base b : Nat) (D : va_G) (aC : Nat → ClassId) (n0 : Nat) (φ0 φ : Nat → Nat) (Hp : Heap) (locs : List Loc) (cells slots : Nat) (lsA : Array Slot) (QM : State → Prop),
    Cx M sc p s m args meth c base b D aC → d ≤ R.frames → 40 * d ≤ R.locals → cells + fc ≤ R.cells → slots + fs ≤ R.slots →
    Rp base b D aC φ K H Hp → va_S (fun q => base ≤ q) s.heap Hp locs → lv_has lsA M.2.2.1 (ls.map fun q => (q.1, toV φ b q.2)) → (∀ q ∈ ls, okV K.length q.2) → (∀ v ∈ st, okV K.length v) →
    n0 ≤ K.length → (∀ a, a < n0 → φ a = φ0 a) → Ret M p l e R s m args below meth c base b D aC n0 φ0 QM Q →
    W p l e R s m args below meth c Hp locs cells slots QM (F0 m pc lsA (st.map (toV φ b)))
def rmOf (d mc ms : Nat) : Room := { frames := d, cells := mc, slots := ms, locals := 40 * d }
def wsM (M : MM) : List Cond := Cond.code M.1 M.2.1 M.2.2.1 M.2.2.2 :: lw_good
/-- what a method's start and end say -/
def PcM (base b : Nat) (D : va_G) (aC : Nat → ClassId) (φ : Nat → Nat) (args : List AV) (K : Shp) (H : Mem) : Array Value → State → Prop :=
  va_Pc (args.map (toV φ b)) (fun U => (∀ w ∈ lw_nest, va_Nw w U) ∧ va_K D vwCl (tysOf aC) U ∧ base ≤ U.heap.size ∧ Rp base b D aC φ K H U.heap ∧ ∀ v ∈ args, okV K.length v)
def QcM (base b : Nat) (D : va_G) (aC : Nat → ClassId) (φ : Nat → Nat) (K : Shp) (Q : Option AV → Shp → Mem → Prop) : Array Value → State → Outcome → State → Prop :=
  fun _ st oc t => (∃ (r : Option AV) (K' : Shp) (H' : Mem) (φ' : Nat → Nat), oc = .returned (r.map (toV φ' b)) ∧ (∀ v, r = some v → v.1 < 2 ∧ okV 0 v) ∧ Q r K' H' ∧ Rp base b D aC φ' K' H' t.heap ∧ K.length ≤ K'.length ∧ ∀ a, a < K.length → φ' a = φ a) ∧ va_F (fun q => base ≤ q) st t
/-- THE CONTRACT of M at arguments and heap -/
def Call (M : MM) (d mc ms : Nat) (args : List AV) (K : Shp) (H : Mem) (Q : Option AV → Shp → Mem → Prop) : Prop :=
  ∀ (l : Launch) (base b : Nat) (D : va_G) (aC : Nat → ClassId) (φ : Nat → Nat), Met l M.1 (wsM M) (rmOf d mc ms) (PcM base b D aC φ args K H) (QcM base b D aC φ K Q) mc ms (fun q => base ≤ q)
def argL : Nat → List AV → List (Nat × AV)
  | _, [] => []
  | i, v :: vs => (i, v) :: argL (if v.1 = 1 then i + 2 else i + 1) vs
theorem cat_toV (φ : Nat → Nat) (b : Nat) (v : AV) : (toV φ b v).category = if v.1 = 1 then 2 else 1 := by
  obtain ⟨t, x⟩ := v
  match t with
  | 0 => rfl
  | 1 => rfl
  | t + 2 =>
    show (rfv φ b x).category = _
    unfold rfv
    split
    · rfl
    · split <;> rfl
theorem argL_eq (φ : Nat → Nat) (b : Nat) (vs : List AV) : ∀ i, lv_args i (vs.map (toV φ b)) = (argL i vs).map fun q => (q.1, toV φ b q.2) := by
  induction vs with
  | nil => intro i; rfl
  | cons v vs ih =>
    intro i
    have hc := cat_toV φ b v
    by_cases h : v.1 = 1
    · rw [if_pos h] at hc
      simp [lv_args, argL, h, hc, ih]
    · rw [if_neg h] at hc
      simp [lv_args, argL, h, hc, ih]
theorem argL_mem (vs : List AV) : ∀ i q, q ∈ argL i vs → q.2 ∈ vs := by
  induction vs with
  | nil => intro i q h; cases h
  | cons v vs ih =>
    intro i q h
    rcases List.mem_cons.mp h with rfl | h
    · exact List.mem_cons_self
    · exact List.mem_cons_of_mem _ (ih _ _ h)
def wid (vs : List AV) : Nat := (vs.map fun v => if v.1 = 1 then 2 else 1).sum
theorem wid_eq (φ : Nat → Nat) (b : Nat) (vs : List AV) : (lg_sl (vs.map (toV φ b))).length = wid vs := by
  induction vs with
  | nil => rfl
  | cons v vs ih =>
    have hc := cat_toV φ b v
    by_cases h : v.1 = 1
    · rw [if_pos h] at hc
      simp [lg_sl, wid, h, hc] at ih ⊢
      omega
    · rw [if_neg h] at hc
      simp [lg_sl, wid, h, hc] at ih ⊢
      omega
end
section
/-! RULES: a frame one instruction on -/
theorem i_toInt {x : Int} (h : inI x) : (Int32.ofInt x).toInt = x := Int32.toInt_ofInt_of_le (by have := h.1; omega) (by have := h.2; omega)
theorem l_toInt {x : Int} (h : inL x) : (Int64.ofInt x).toInt = x := Int64.toInt_ofInt_of_le (by have := h.1; omega) (by have := h.2; omega)
theorem i_lt {x y : Int} (hx : inI x) (hy : inI y) : Int32.ofInt x < Int32.ofInt y ↔ x < y := by rw [Int32.lt_iff_toInt_lt, i_toInt hx, i_toInt hy]
theorem i_le {x y : Int} (hx : inI x) (hy : inI y) : Int32.ofInt x ≤ Int32.ofInt y ↔ x ≤ y := by rw [Int32.le_iff_toInt_le, i_toInt hx, i_toInt hy]
theorem i_eq {x y : Int} (hx : inI x) (hy : inI y) : Int32.ofInt x = Int32.ofInt y ↔ x = y := by rw [← Int32.toInt_inj, i_toInt hx, i_toInt hy]
theorem l_lt {x y : Int} (hx : inL x) (hy : inL y) : Int64.ofInt x < Int64.ofInt y ↔ x < y := by rw [Int64.lt_iff_toInt_lt, l_toInt hx, l_toInt hy]
theorem l_eq {x y : Int} (hx : inL x) (hy : inL y) : Int64.ofInt x = Int64.ofInt y ↔ x = y := by rw [← Int64.toInt_inj, l_toInt hx, l_toInt hy]
theorem i_zero : inI 0 := ⟨by decide, by decide⟩
theorem i_in {x : Int} {n : Nat} (hx : inI x) (h0 : 0 ≤ x) (h1 : x < n) : vp_in (Int32.ofInt x) n := by
  rw [vp_in_iff, i_toInt hx]
  exact ⟨h0, h1⟩
theorem i_clamp {x : Int} (hx : inI x) : (Int32.ofInt x).toNatClampNeg = x.toNat := by
  rw [← Int32.toNat_toInt, i_toInt hx]
section Rules
variable {M : MM} {d fc fs : Nat} {sc : Option (Nat × (Nat → Int))} {pc : Nat} {ls : List (Nat × AV)} {st : List AV} {K : Shp} {H : Mem} {Q : Option AV → Shp → Mem → Prop}
/-- a step that looks at the stack alone -/
theorem Fr.pure {pc' : Nat} {st1 st2 : List AV} (k : Fr M d fc fs sc pc' ls st2 K H Q) (ho : (∀ v ∈ st1, okV K.length v) → ∀ v ∈ st2, okV K.length v)
    (hw : ∀ {p : Program} {l : Launch} {e : Env} {R : Room} {s : State} {m : MethodId} {args : Array Value} {below : List Frame} {meth : Method} {c : Code} {Hp : Heap} {locs : List Loc} {cells slots : Nat} {QM : State → Prop} (φ : Nat → Nat) (b : Nat) (lsA : Array Slot), p.tables.exec = Jvm.exec → c.code = M.2.1 → s.vm.findClass M.1.cls = some m.cls → (∀ w ∈ lw_good, w.before args s = true) → (∀ v ∈ st1, okV K.length v) →
      W p l e R s m args below meth c Hp locs cells slots QM (F0 m pc' lsA (st2.map (toV φ b))) → W p l e R s m args below meth c Hp locs cells slots QM (F0 m pc lsA (st1.map (toV φ b)))) : Fr M d fc fs sc pc ls st1 K H Q := by
  intro p l e R s m args below meth c base b D aC n0 φ0 φ Hp locs cells slots lsA QM hC hR1 hR2 hc1 hc2 hP hS hl hlo hso hn hag hret
  exact hw φ b lsA hC.1 hC.2.1 hC.2.2.2.2.1 hC.2.2.2.2.2.1 hso (k p l e R s m args below meth c base b D aC n0 φ0 φ Hp locs cells slots lsA QM hC hR1 hR2 hc1 hc2 hP hS hl hlo (ho hso) hn hag hret)
theorem ok_push {n : Nat} {v : AV} {st : List AV} (hv : okV n v) (h : ∀ x ∈ st, okV n x) : ∀ x ∈ v :: st, okV n x := fun x hx => (List.mem_cons.mp hx).elim (fun e => e ▸ hv) (h x)
theorem ok_1 {n : Nat} {v : AV} {st : List AV} (h : ∀ x ∈ v :: st, okV n x) : okV n v ∧ ∀ x ∈ st, okV n x := ⟨h v List.mem_cons_self, fun x hx => h x (List.mem_cons_of_mem _ hx)⟩
theorem ok_2 {n : Nat} {v w : AV} {st : List AV} (h : ∀ x ∈ v :: w :: st, okV n x) : okV n v ∧ okV n w ∧ ∀ x ∈ st, okV n x := ⟨(ok_1 h).1, ok_1 (ok_1 h).2⟩
/-- constants -/
theorem r_iconst {x : Int} (hd : decode M.2.1 pc = .ok (.iconst x, 1)) (h1 : -2147483648 ≤ x) (h2 : x ≤ 2147483647) (k : Fr M d fc fs sc (pc + 1) ls ((0, x) :: st) K H Q) : Fr M d fc fs sc pc ls st K H Q :=
  Fr.pure k (ok_push ⟨h1, h2⟩) (fun φ b lsA hx hb _ _ _ w => lv_iconst hx hb hd rfl w)
theorem r_bipush {x : Int} (hd : decode M.2.1 pc = .ok (.bipush x, 2)) (h1 : -128 ≤ x) (h2 : x ≤ 127) (k : Fr M d fc fs sc (pc + 2) ls ((0, x) :: st) K H Q) : Fr M d fc fs sc pc ls st K H Q :=
  Fr.pure k (ok_push (⟨by omega, by omega⟩ : inI x)) (fun φ b lsA hx hb _ _ _ w => lv_bipush hx hb hd (by
    rw [← Int32.ofInt_int8ToInt, Int8.toInt_ofInt_of_le (by omega) (by omega)]) w)
theorem r_sipush {x : Int} (hd : decode M.2.1 pc = .ok (.sipush x, 3)) (h1 : -32768 ≤ x) (h2 : x ≤ 32767) (k : Fr M d fc fs sc (pc + 3) ls ((0, x) :: st) K H Q) : Fr M d fc fs sc pc ls st K H Q :=
  Fr.pure k (ok_push (⟨by omega, by omega⟩ : inI x)) (fun φ b lsA hx hb _ _ _ w => lv_sipush hx hb hd (by
    rw [← Int32.ofInt_int16ToInt, Int16.toInt_ofInt_of_le (by omega) (by omega)]) w)
theorem r_lconst0 (hd : decode M.2.1 pc = .ok (.lconst 0, 1)) (k : Fr M d fc fs sc (pc + 1) ls ((1, 0) :: st) K H Q) : Fr M d fc fs sc pc ls st K H Q :=
  Fr.pure k (ok_push (⟨by decide, by decide⟩ : inL 0)) (fun φ b lsA hx hb _ _ _ w => lv_lconst hx hb hd rfl w)
theorem r_lconst1 (hd : decode M.2.1 pc = .ok (.lconst 1, 1)) (k : Fr M d fc fs sc (pc + 1) ls ((1, 1) :: st) K H Q) : Fr M d fc fs sc pc ls st K H Q :=
  Fr.pure k (ok_push (⟨by decide, by decide⟩ : inL 1)) (fun φ b lsA hx hb _ _ _ w => lv_lconst hx hb hd rfl w)
theorem r_ldc {i : Nat} {x : Int} (hd : decode M.2.1 pc = .ok (.ldc i, 2)) (hw : Cond.constant M.1.cls i (Int32.ofInt x) ∈ lw_good) (h1 : -2147483648 ≤ x) (h2 : x ≤ 2147483647) (k : Fr M d fc fs sc (pc + 2) ls ((0, x) :: st) K H Q) : Fr M d fc fs sc pc ls st K H Q :=
  Fr.pure k (ok_push ⟨h1, h2⟩) (fun φ b lsA hx hb ho hts _ w => lv_ldc hx hb ho (hts _ hw) hd w)
theorem r_ldc2 {i : Nat} {x : Int} (hd : decode M.2.1 pc = .ok (.ldc2_w i, 3)) (hw : Cond.constantLong M.1.cls i (Int64.ofInt x) ∈ lw_good) (h1 : -9223372036854775808 ≤ x) (h2 : x ≤ 9223372036854775807) (k : Fr M d fc fs sc (pc + 3) ls ((1, x) :: st) K H Q) : Fr M d fc fs sc pc ls st K H Q :=
  Fr.pure k (ok_push ⟨h1, h2⟩) (fun φ b lsA hx hb ho hts _ w => lv_ldc2 hx hb ho (hts _ hw) hd w)
/-- int and long arithmetic -/
theorem r_iadd {x y : Int} (hd : decode M.2.1 pc = .ok (.iadd, 1)) (h : inI (x + y)) (k : Fr M d fc fs sc (pc + 1) ls ((0, x + y) :: st) K H Q) : Fr M d fc fs sc pc ls ((0, y) :: (0, x) :: st) K H Q :=
  Fr.pure k (fun o => ok_push h (ok_2 o).2.2) (fun φ b lsA hx hb _ _ _ w => lv_iadd hx hb hd (by
    rw [← Int32.ofInt_add]; exact w))
theorem r_isub {x y : Int} (hd : decode M.2.1 pc = .ok (.isub, 1)) (h : inI (x - y)) (k : Fr M d fc fs sc (pc + 1) ls ((0, x - y) :: st) K H Q) : Fr M d fc fs sc pc ls ((0, y) :: (0, x) :: st) K H Q :=
  Fr.pure k (fun o => ok_push h (ok_2 o).2.2) (fun φ b lsA hx hb _ _ _ w => lv_isub hx hb hd (by
    rw [← Int32.ofInt_sub]; exact w))
theorem r_imul {x y : Int} (hd : decode M.2.1 pc = .ok (.imul, 1)) (h : inI (x * y)) (k : Fr M d fc fs sc (pc + 1) ls ((0, x * y) :: st) K H Q) : Fr M d fc fs sc pc ls ((0, y) :: (0, x) :: st) K H Q :=
  Fr.pure k (fun o => ok_push h (ok_2 o).2.2) (fun φ b lsA hx hb _ _ _ w => lv_imul hx hb hd (by
    rw [← Int32.ofInt_mul]; exact w))
theorem r_ineg {x : Int} (hd : decode M.2.1 pc = .ok (.ineg, 1)) (h : inI (-x)) (k : Fr M d fc fs sc (pc + 1) ls ((0, -x) :: st) K H Q) : Fr M d fc fs sc pc ls ((0, x) :: st) K H Q :=
  Fr.pure k (fun o => ok_push h (ok_1 o).2) (fun φ b lsA hx hb _ _ _ w => lv_ineg hx hb hd (by
    rw [← Int32.ofInt_neg]; exact w))
theorem r_ladd {x y : Int} (hd : decode M.2.1 pc = .ok (.ladd, 1)) (h : inL (x + y)) (k : Fr M d fc fs sc (pc + 1) ls ((1, x + y) :: st) K H Q) : Fr M d fc fs sc pc ls ((1, y) :: (1, x) :: st) K H Q :=
  Fr.pure k (fun o => ok_push h (ok_2 o).2.2) (fun φ b lsA hx hb _ _ _ w => lv_ladd hx hb hd (by
    rw [← Int64.ofInt_add]; exact w))
theorem r_lsub {x y : Int} (hd : decode M.2.1 pc = .ok (.lsub, 1)) (h : inL (x - y)) (k : Fr M d fc fs sc (pc + 1) ls ((1, x - y) :: st) K H Q) : Fr M d fc fs sc pc ls ((1, y) :: (1, x) :: st) K H Q :=
  Fr.pure k (fun o => ok_push h (ok_2 o).2.2) (fun φ b lsA hx hb _ _ _ w => lv_lsub hx hb hd (by
    rw [← Int64.ofInt_sub]; exact w))
theorem r_lmul {x y : Int} (hd : decode M.2.1 pc = .ok (.lmul, 1)) (h : inL (x * y)) (k : Fr M d fc fs sc (pc + 1) ls ((1, x * y) :: st) K H Q) : Fr M d fc fs sc pc ls ((1, y) :: (1, x) :: st) K H Q :=
  Fr.pure k (fun o => ok_push h (ok_2 o).2.2) (fun φ b lsA hx hb _ _ _ w => lv_lmul hx hb hd (by
    rw [← Int64.ofInt_mul]; exact w))
theorem r_lneg {x : Int} (hd : decode M.2.1 pc = .ok (.lneg, 1)) (h : inL (-x)) (k : Fr M d fc fs sc (pc + 1) ls ((1, -x) :: st) K H Q) : Fr M d fc fs sc pc ls ((1, x) :: st) K H Q :=
  Fr.pure k (fun o => ok_push h (ok_1 o).2) (fun φ b lsA hx hb _ _ _ w => lv_lneg hx hb hd (by
    rw [← Int64.ofInt_neg]; exact w))
theorem i_ne0 {y : Int} (hy : inI y) (h : y ≠ 0) : ¬ Int32.ofInt y = 0 := fun q => h ((i_eq hy i_zero).mp q)
theorem l_ne0 {y : Int} (hy : inL y) (h : y ≠ 0) : ¬ Int64.ofInt y = 0 := fun q => h ((l_eq hy ⟨by decide, by decide⟩).mp q)
theorem i_div {x y : Int} (hx : inI x) (hy : inI y) : Int32.ofInt x / Int32.ofInt y = Int32.ofInt (x.tdiv y) := (Int32.ofInt_tdiv hx.1 hx.2 hy.1 hy.2).symm
theorem l_div {x y : Int} (hx : inL x) (hy : inL y) : Int64.ofInt x / Int64.ofInt y = Int64.ofInt (x.tdiv y) := (Int64.ofInt_tdiv hx.1 hx.2 hy.1 hy.2).symm
theorem i_rem {x y : Int} (hx : inI x) (hy : inI y) : Int32.ofInt x - Int32.ofInt x / Int32.ofInt y * Int32.ofInt y = Int32.ofInt (x.tmod y) := by
  rw [i_div hx hy, ← Int32.ofInt_mul, ← Int32.ofInt_sub, Int.tmod_def, Int.mul_comm]
theorem l_rem {x y : Int} (hx : inL x) (hy : inL y) : Int64.ofInt x - Int64.ofInt x / Int64.ofInt y * Int64.ofInt y = Int64.ofInt (x.tmod y) := by
  rw [l_div hx hy, ← Int64.ofInt_mul, ← Int64.ofInt_sub, Int.tmod_def, Int.mul_comm]
theorem r_idiv {x y : Int} (hd : decode M.2.1 pc = .ok (.idiv, 1)) (hy : y ≠ 0) (h : inI (x.tdiv y)) (k : Fr M d fc fs sc (pc + 1) ls ((0, x.tdiv y) :: st) K H Q) : Fr M d fc fs sc pc ls ((0, y) :: (0, x) :: st) K H Q :=
  Fr.pure k (fun o => ok_push h (ok_2 o).2.2) (fun φ b lsA hx hb _ _ o w => lv_idiv hx hb hd (i_ne0 (ok_2 o).1 hy) (by
    rw [i_div (ok_2 o).2.1 (ok_2 o).1]; exact w))
theorem r_irem {x y : Int} (hd : decode M.2.1 pc = .ok (.irem, 1)) (hy : y ≠ 0) (h : inI (x.tmod y)) (k : Fr M d fc fs sc (pc + 1) ls ((0, x.tmod y) :: st) K H Q) : Fr M d fc fs sc pc ls ((0, y) :: (0, x) :: st) K H Q :=
  Fr.pure k (fun o => ok_push h (ok_2 o).2.2) (fun φ b lsA hx hb _ _ o w => lv_irem hx hb hd (i_ne0 (ok_2 o).1 hy) (by
    rw [i_rem (ok_2 o).2.1 (ok_2 o).1]; exact w))
theorem r_ldiv {x y : Int} (hd : decode M.2.1 pc = .ok (.ldiv, 1)) (hy : y ≠ 0) (h : inL (x.tdiv y)) (k : Fr M d fc fs sc (pc + 1) ls ((1, x.tdiv y) :: st) K H Q) : Fr M d fc fs sc pc ls ((1, y) :: (1, x) :: st) K H Q :=
  Fr.pure k (fun o => ok_push h (ok_2 o).2.2) (fun φ b lsA hx hb _ _ o w => lv_ldiv hx hb hd (l_ne0 (ok_2 o).1 hy) (by
    rw [l_div (ok_2 o).2.1 (ok_2 o).1]; exact w))
theorem r_lrem {x y : Int} (hd : decode M.2.1 pc = .ok (.lrem, 1)) (hy : y ≠ 0) (h : inL (x.tmod y)) (k : Fr M d fc fs sc (pc + 1) ls ((1, x.tmod y) :: st) K H Q) : Fr M d fc fs sc pc ls ((1, y) :: (1, x) :: st) K H Q :=
  Fr.pure k (fun o => ok_push h (ok_2 o).2.2) (fun φ b lsA hx hb _ _ o w => lv_lrem hx hb hd (l_ne0 (ok_2 o).1 hy) (by
    rw [l_rem (ok_2 o).2.1 (ok_2 o).1]; exact w))
theorem r_i2l {x : Int} (hd : decode M.2.1 pc = .ok (.i2l, 1)) (k : Fr M d fc fs sc (pc + 1) ls ((1, x) :: st) K H Q) : Fr M d fc fs sc pc ls ((0, x) :: st) K H Q :=
  Fr.pure k (fun o => ok_push (by have h : inI x := (ok_1 o).1; exact ⟨by have := h.1; omega, by have := h.2; omega⟩ : inL x) (ok_1 o).2) (fun φ b lsA hx hb _ _ o w => lv_i2l hx hb hd (by
    have h : inI x := (ok_1 o).1
    rw [← Int64.ofInt_int32ToInt, i_toInt h]) w)
theorem r_l2i {x : Int} (hd : decode M.2.1 pc = .ok (.l2i, 1)) (h : inI x) (k : Fr M d fc fs sc (pc + 1) ls ((0, x) :: st) K H Q) : Fr M d fc fs sc pc ls ((1, x) :: st) K H Q :=
  Fr.pure k (fun o => ok_push h (ok_1 o).2) (fun φ b lsA hx hb _ _ o w => lv_l2i hx hb hd (by rw [Int64.toInt32_ofInt]) w)
theorem r_i2c {x : Int} (hd : decode M.2.1 pc = .ok (.i2c, 1)) (h0 : 0 ≤ x) (h1 : x < 65536) (k : Fr M d fc fs sc (pc + 1) ls ((0, x) :: st) K H Q) : Fr M d fc fs sc pc ls ((0, x) :: st) K H Q :=
  Fr.pure k (fun o => o) (fun φ b lsA hx hb _ _ o w => lv_i2c hx hb hd (by
    obtain ⟨n, rfl⟩ := Int.eq_ofNat_of_zero_le h0
    have e : Int32.ofInt (n : Int) = nI n := Int32.ofInt_eq_ofNat
    rw [pk_char, e, pk_tn (by omega), Nat.mod_eq_of_lt (by omega)]) w)
/-- the stack -/
theorem cat1 {φ : Nat → Nat} {b : Nat} {v : AV} (h : v.1 ≠ 1) : (toV φ b v).category = 1 := by rw [cat_toV, if_neg h]
theorem r_dup {v : AV} (hd : decode M.2.1 pc = .ok (.dup, 1)) (h : v.1 ≠ 1) (k : Fr M d fc fs sc (pc + 1) ls (v :: v :: st) K H Q) : Fr M d fc fs sc pc ls (v :: st) K H Q :=
  Fr.pure k (fun o => ok_push (ok_1 o).1 o) (fun φ b lsA hx hb _ _ _ w => lv_dup hx hb hd (cat1 h) w)
theorem r_dup2 {v w : AV} (hd : decode M.2.1 pc = .ok (.dup2, 1)) (h : v.1 ≠ 1) (h' : w.1 ≠ 1) (k : Fr M d fc fs sc (pc + 1) ls (v :: w :: v :: w :: st) K H Q) : Fr M d fc fs sc pc ls (v :: w :: st) K H Q :=
  Fr.pure k (fun o => ok_push (ok_2 o).1 (ok_push (ok_2 o).2.1 o)) (fun φ b lsA hx hb _ _ _ w => lv_dup2_11 hx hb hd (cat1 h) (cat1 h') w)
theorem r_pop {v : AV} (hd : decode M.2.1 pc = .ok (.pop, 1)) (h : v.1 ≠ 1) (k : Fr M d fc fs sc (pc + 1) ls st K H Q) : Fr M d fc fs sc pc ls (v :: st) K H Q :=
  Fr.pure k (fun o => (ok_1 o).2) (fun φ b lsA hx hb _ _ _ w => lv_pop hx hb hd (cat1 h) w)
theorem r_goto {off : Int} {tgt : Nat} (hd : decode M.2.1 pc = .ok (.goto off, 3)) (ht : (pc : Int) + off = (tgt : Int)) (k : Fr M d fc fs sc tgt ls st K H Q) : Fr M d fc fs sc pc ls st K H Q :=
  Fr.pure k (fun o => o) (fun φ b lsA hx hb _ _ _ w => lv_goto hx hb hd ht w)
end Rules
end
section
/-! RULES, second part: locals, branches, fields, arrays -/
section Rules2
variable {M : MM} {d fc fs : Nat} {sc : Option (Nat × (Nat → Int))} {pc : Nat} {ls : List (Nat × AV)} {st : List AV} {K : Shp} {H : Mem} {Q : Option AV → Shp → Mem → Prop}
theorem lv_mem {φ : Nat → Nat} {b nL : Nat} {lsA : Array Slot} {ls : List (Nat × AV)} {i : Nat} {v : AV} (h : lv_has lsA nL (ls.map fun q => (q.1, toV φ b q.2))) (hm : (i, v) ∈ ls) : lsA[i]? = some (.val (toV φ b v)) :=
  h.2.2 (i, toV φ b v) (List.mem_map.mpr ⟨(i, v), hm, rfl⟩)
/-- a load: i has been read -/
theorem Fr.load {pc' i : Nat} {v : AV} (hm : (i, v) ∈ ls) (k : Fr M d fc fs sc pc' ls (v :: st) K H Q)
    (hw : ∀ {p : Program} {l : Launch} {e : Env} {R : Room} {s : State} {m : MethodId} {args : Array Value} {below : List Frame} {meth : Method} {c : Code} {Hp : Heap} {locs : List Loc} {cells slots : Nat} {QM : State → Prop} (φ : Nat → Nat) (b : Nat) (lsA : Array Slot), p.tables.exec = Jvm.exec → c.code = M.2.1 → lsA[i]? = some (.val (toV φ b v)) →
      W p l e R s m args below meth c Hp locs cells slots QM (F0 m pc' lsA (toV φ b v :: st.map (toV φ b))) → W p l e R s m args below meth c Hp locs cells slots QM (F0 m pc lsA (st.map (toV φ b)))) : Fr M d fc fs sc pc ls st K H Q := by
  intro p l e R s m args below meth c base b D aC n0 φ0 φ Hp locs cells slots lsA QM hC hR1 hR2 hc1 hc2 hP hS hl hlo hso hn hag hret
  exact hw φ b lsA hC.1 hC.2.1 (lv_mem hl hm) (k p l e R s m args below meth c base b D aC n0 φ0 φ Hp locs cells slots lsA QM hC hR1 hR2 hc1 hc2 hP hS hl hlo (ok_push (hlo _ hm) hso) hn hag hret)
theorem mem_at {α : Type} {l : List α} {j : Nat} {x : α} (h : l[j]? = some x) : x ∈ l := List.mem_of_getElem? h
theorem r_iload {i : Nat} {x : Int} (j : Nat) (hd : decode M.2.1 pc = .ok (.iload i, 2)) (hm : ls[j]? = some (i, (0, x))) (k : Fr M d fc fs sc (pc + 2) ls ((0, x) :: st) K H Q) : Fr M d fc fs sc pc ls st K H Q :=
  Fr.load (mem_at hm) k fun φ b lsA hx hb hl w => lv_iload hx hb hd hl w
theorem r_iload_n {n : Fin 4} {i : Nat} {x : Int} (j : Nat) (hd : decode M.2.1 pc = .ok (.iload_n n, 1)) (hi : (n : Nat) = i) (hm : ls[j]? = some (i, (0, x))) (k : Fr M d fc fs sc (pc + 1) ls ((0, x) :: st) K H Q) : Fr M d fc fs sc pc ls st K H Q :=
  Fr.load (mem_at hm) k fun φ b lsA hx hb hl w => lv_iload_n hx hb hd hi hl w
theorem r_lload {i : Nat} {x : Int} (j : Nat) (hd : decode M.2.1 pc = .ok (.lload i, 2)) (hm : ls[j]? = some (i, (1, x))) (k : Fr M d fc fs sc (pc + 2) ls ((1, x) :: st) K H Q) : Fr M d fc fs sc pc ls st K H Q :=
  Fr.load (mem_at hm) k fun φ b lsA hx hb hl w => lv_lload hx hb hd hl w
theorem r_lload_n {n : Fin 4} {i : Nat} {x : Int} (j : Nat) (hd : decode M.2.1 pc = .ok (.lload_n n, 1)) (hi : (n : Nat) = i) (hm : ls[j]? = some (i, (1, x))) (k : Fr M d fc fs sc (pc + 1) ls ((1, x) :: st) K H Q) : Fr M d fc fs sc pc ls st K H Q :=
  Fr.load (mem_at hm) k fun φ b lsA hx hb hl w => lv_lload_n hx hb hd hi hl w
theorem r_aload {i : Nat} {x : Int} (j : Nat) (hd : decode M.2.1 pc = .ok (.aload i, 2)) (hm : ls[j]? = some (i, (2, x))) (k : Fr M d fc fs sc (pc + 2) ls ((2, x) :: st) K H Q) : Fr M d fc fs sc pc ls st K H Q :=
  Fr.load (mem_at hm) k fun φ b lsA hx hb hl w => by
    change lsA[i]? = some (.val (rfv φ b x)) at hl
    change W _ _ _ _ _ _ _ _ _ _ _ _ _ _ _ (F0 _ _ _ (rfv φ b x :: _)) at w
    unfold rfv at hl w
    split at hl
    · rw [if_pos (by assumption)] at w; exact lv_aload hx hb hd hl w
    · rw [if_neg (by assumption)] at w
      split at hl
      · rw [if_pos (by assumption)] at w; exact lv_aloadN hx hb hd hl w
      · rw [if_neg (by assumption)] at w; exact lv_aload hx hb hd hl w
theorem r_aload_n {n : Fin 4} {i : Nat} {x : Int} (j : Nat) (hd : decode M.2.1 pc = .ok (.aload_n n, 1)) (hi : (n : Nat) = i) (hm : ls[j]? = some (i, (2, x))) (k : Fr M d fc fs sc (pc + 1) ls ((2, x) :: st) K H Q) : Fr M d fc fs sc pc ls st K H Q :=
  Fr.load (mem_at hm) k fun φ b lsA hx hb hl w => by
    change lsA[i]? = some (.val (rfv φ b x)) at hl
    change W _ _ _ _ _ _ _ _ _ _ _ _ _ _ _ (F0 _ _ _ (rfv φ b x :: _)) at w
    unfold rfv at hl w
    split at hl
    · rw [if_pos (by assumption)] at w; exact lv_aload_n hx hb hd hi hl w
    · rw [if_neg (by assumption)] at w
      split at hl
      · rw [if_pos (by assumption)] at w; exact lv_aload_nN hx hb hd hi hl w
      · rw [if_neg (by assumption)] at w; exact lv_aload_n hx hb hd hi hl w
/-- what stays of the locals behind a store at i -/
def cut1 (i : Nat) (ls : List (Nat × AV)) : List (Nat × AV) := ls.filter fun q => !(q.1 == i) && !(q.1 + 1 == i && q.2.1 == 1)
def cut2 (i : Nat) (ls : List (Nat × AV)) : List (Nat × AV) := ls.filter fun q => !(q.1 == i) && (!(q.1 == i + 1) && !(q.1 + 1 == i && q.2.1 == 1))
theorem cat2 (φ : Nat → Nat) (b : Nat) (v : AV) : ((toV φ b v).category == 2) = (v.1 == 1) := by
  rw [cat_toV]
  by_cases h : v.1 = 1
  · simp [h]
  · simp [h]
theorem cut1_eq (φ : Nat → Nat) (b i : Nat) (v : AV) (ls : List (Nat × AV)) : (i, toV φ b v) :: (ls.map fun q => (q.1, toV φ b q.2)).filter (fun q => !(q.1 == i) && !(q.1 + 1 == i && q.2.category == 2)) = ((i, v) :: cut1 i ls).map fun q => (q.1, toV φ b q.2) := by
  simp only [cut1, List.map_cons, List.filter_map, Function.comp_def, cat2]
theorem cut2_eq (φ : Nat → Nat) (b i : Nat) (v : AV) (ls : List (Nat × AV)) : (i, toV φ b v) :: (ls.map fun q => (q.1, toV φ b q.2)).filter (fun q => !(q.1 == i) && (!(q.1 == i + 1) && !(q.1 + 1 == i && q.2.category == 2))) = ((i, v) :: cut2 i ls).map fun q => (q.1, toV φ b q.2) := by
  simp only [cut2, List.map_cons, List.filter_map, Function.comp_def, cat2]
theorem Fr.store {pc' i : Nat} {v : AV} {ls' : List (Nat × AV)} (cut : Nat → List (Nat × AV) → List (Nat × AV)) (hcut : ∀ q, q ∈ cut i ls → q ∈ ls) (he : (i, v) :: cut i ls = ls') (k : Fr M d fc fs sc pc' ls' st K H Q)
    (hw : ∀ {p : Program} {l : Launch} {e : Env} {R : Room} {s : State} {m : MethodId} {args : Array Value} {below : List Frame} {meth : Method} {c : Code} {Hp : Heap} {locs : List Loc} {cells slots : Nat} {QM : State → Prop} (φ : Nat → Nat) (b : Nat) (lsA : Array Slot), p.tables.exec = Jvm.exec → c.code = M.2.1 → lv_has lsA M.2.2.1 (ls.map fun q => (q.1, toV φ b q.2)) →
      (∀ lsB : Array Slot, lv_has lsB M.2.2.1 (((i, v) :: cut i ls).map fun q => (q.1, toV φ b q.2)) → W p l e R s m args below meth c Hp locs cells slots QM (F0 m pc' lsB (st.map (toV φ b)))) → W p l e R s m args below meth c Hp locs cells slots QM (F0 m pc lsA (toV φ b v :: st.map (toV φ b)))) : Fr M d fc fs sc pc ls (v :: st) K H Q := by
  intro p l e R s m args below meth c base b D aC n0 φ0 φ Hp locs cells slots lsA QM hC hR1 hR2 hc1 hc2 hP hS hl hlo hso hn hag hret
  subst he
  exact hw φ b lsA hC.1 hC.2.1 hl fun lsB hlB => k p l e R s m args below meth c base b D aC n0 φ0 φ Hp locs cells slots lsB QM hC hR1 hR2 hc1 hc2 hP hS hlB (fun q hq => (List.mem_cons.mp hq).elim (fun e => by rw [e]; exact (ok_1 hso).1) (fun h => hlo q (hcut q h))) (ok_1 hso).2 hn hag hret
theorem cut1_in (i : Nat) (ls : List (Nat × AV)) : ∀ q, q ∈ cut1 i ls → q ∈ ls := fun _ h => (List.mem_filter.mp h).1
theorem cut2_in (i : Nat) (ls : List (Nat × AV)) : ∀ q, q ∈ cut2 i ls → q ∈ ls := fun _ h => (List.mem_filter.mp h).1
theorem r_istore {i : Nat} {x : Int} {ls' : List (Nat × AV)} (hd : decode M.2.1 pc = .ok (.istore i, 2)) (hn : i < M.2.2.1) (he : (i, (0, x)) :: cut1 i ls = ls') (k : Fr M d fc fs sc (pc + 2) ls' st K H Q) : Fr M d fc fs sc pc ls ((0, x) :: st) K H Q :=
  Fr.store cut1 (cut1_in i ls) he k fun φ b lsA hx hb hl w => lv_istore hx hb hd hl hn (cut1_eq φ b i (0, x) ls) w
theorem r_istore_n {n : Fin 4} {i : Nat} {x : Int} {ls' : List (Nat × AV)} (hd : decode M.2.1 pc = .ok (.istore_n n, 1)) (hi : (n : Nat) = i) (hn : i < M.2.2.1) (he : (i, (0, x)) :: cut1 i ls = ls') (k : Fr M d fc fs sc (pc + 1) ls' st K H Q) : Fr M d fc fs sc pc ls ((0, x) :: st) K H Q :=
  Fr.store cut1 (cut1_in i ls) he k fun φ b lsA hx hb hl w => lv_istore_n hx hb hd hi hl hn (cut1_eq φ b i (0, x) ls) w
theorem r_lstore {i : Nat} {x : Int} {ls' : List (Nat × AV)} (hd : decode M.2.1 pc = .ok (.lstore i, 2)) (hn : i + 1 < M.2.2.1) (he : (i, (1, x)) :: cut2 i ls = ls') (k : Fr M d fc fs sc (pc + 2) ls' st K H Q) : Fr M d fc fs sc pc ls ((1, x) :: st) K H Q :=
  Fr.store cut2 (cut2_in i ls) he k fun φ b lsA hx hb hl w => lv_lstore hx hb hd hl hn (cut2_eq φ b i (1, x) ls) w
theorem r_lstore_n {n : Fin 4} {i : Nat} {x : Int} {ls' : List (Nat × AV)} (hd : decode M.2.1 pc = .ok (.lstore_n n, 1)) (hi : (n : Nat) = i) (hn : i + 1 < M.2.2.1) (he : (i, (1, x)) :: cut2 i ls = ls') (k : Fr M d fc fs sc (pc + 1) ls' st K H Q) : Fr M d fc fs sc pc ls ((1, x) :: st) K H Q :=
  Fr.store cut2 (cut2_in i ls) he k fun φ b lsA hx hb hl w => lv_lstore_n hx hb hd hi hl hn (cut2_eq φ b i (1, x) ls) w
theorem r_astore {i : Nat} {x : Int} {ls' : List (Nat × AV)} (hd : decode M.2.1 pc = .ok (.astore i, 2)) (hn : i < M.2.2.1) (he : (i, (2, x)) :: cut1 i ls = ls') (k : Fr M d fc fs sc (pc + 2) ls' st K H Q) : Fr M d fc fs sc pc ls ((2, x) :: st) K H Q :=
  Fr.store cut1 (cut1_in i ls) he k fun φ b lsA hx hb hl w => by
    have e := cut1_eq φ b i (2, x) ls
    change W _ _ _ _ _ _ _ _ _ _ _ _ _ _ _ (F0 _ _ _ (rfv φ b x :: _))
    change (i, rfv φ b x) :: _ = _ at e
    unfold rfv at e ⊢
    split
    · rw [if_pos (by assumption)] at e; exact lv_astore hx hb hd hl hn e w
    · rw [if_neg (by assumption)] at e
      split
      · rw [if_pos (by assumption)] at e; exact lv_astoreN hx hb hd hl hn e w
      · rw [if_neg (by assumption)] at e; exact lv_astore hx hb hd hl hn e w
theorem r_astore_n {n : Fin 4} {i : Nat} {x : Int} {ls' : List (Nat × AV)} (hd : decode M.2.1 pc = .ok (.astore_n n, 1)) (hi : (n : Nat) = i) (hn : i < M.2.2.1) (he : (i, (2, x)) :: cut1 i ls = ls') (k : Fr M d fc fs sc (pc + 1) ls' st K H Q) : Fr M d fc fs sc pc ls ((2, x) :: st) K H Q :=
  Fr.store cut1 (cut1_in i ls) he k fun φ b lsA hx hb hl w => by
    have e := cut1_eq φ b i (2, x) ls
    change W _ _ _ _ _ _ _ _ _ _ _ _ _ _ _ (F0 _ _ _ (rfv φ b x :: _))
    change (i, rfv φ b x) :: _ = _ at e
    unfold rfv at e ⊢
    split
    · rw [if_pos (by assumption)] at e; exact lv_astore_n hx hb hd hi hl hn e w
    · rw [if_neg (by assumption)] at e
      split
      · rw [if_pos (by assumption)] at e; exact lv_astore_nN hx hb hd hi hl hn e w
      · rw [if_neg (by assumption)] at e; exact lv_astore_n hx hb hd hi hl hn e w
theorem r_iinc {i : Nat} {n x : Int} {ls' : List (Nat × AV)} (j : Nat) (hd : decode M.2.1 pc = .ok (.iinc i n, 3)) (hn : i < M.2.2.1) (hm : ls[j]? = some (i, (0, x))) (h : inI (x + n)) (he : (i, (0, x + n)) :: cut1 i ls = ls') (k : Fr M d fc fs sc (pc + 3) ls' st K H Q) : Fr M d fc fs sc pc ls st K H Q := by
  intro p l e R s m args below meth c base b D aC n0 φ0 φ Hp locs cells slots lsA QM hC hR1 hR2 hc1 hc2 hP hS hl hlo hso hn' hag hret
  subst he
  have hk : (ls.map fun q => (q.1, toV φ b q.2))[j]? = some (i, .int (Int32.ofInt x)) := by rw [List.getElem?_map, hm]; rfl
  exact lv_iinc hC.1 hC.2.1 hd hl hk (Int32.ofInt_add x n).symm hn (cut1_eq φ b i (0, x + n) ls) fun lsB hlB => k p l e R s m args below meth c base b D aC n0 φ0 φ Hp locs cells slots lsB QM hC hR1 hR2 hc1 hc2 hP hS hlB (fun q hq => (List.mem_cons.mp hq).elim (fun e => by rw [e]; exact h) (fun h => hlo q (cut1_in i ls q h))) hso hn' hag hret
/-- fewer locals, in any order -/
theorem Fr.fewer {ls' : List (Nat × AV)} (ks : List Nat) (he : ks.filterMap (fun k => ls[k]?) = ls') (k : Fr M d fc fs sc pc ls' st K H Q) : Fr M d fc fs sc pc ls st K H Q := by
  intro p l e R s m args below meth c base b D aC n0 φ0 φ Hp locs cells slots lsA QM hC hR1 hR2 hc1 hc2 hP hS hl hlo hso hn' hag hret
  have hin : ∀ q, q ∈ ls' → q ∈ ls := by
    intro q hq
    rw [← he] at hq
    obtain ⟨i, -, hi⟩ := List.mem_filterMap.mp hq
    exact List.mem_of_getElem? hi
  refine k p l e R s m args below meth c base b D aC n0 φ0 φ Hp locs cells slots lsA QM hC hR1 hR2 hc1 hc2 hP hS ⟨hl.1, hl.2.1, fun q hq => ?_⟩ (fun q hq => hlo q (hin q hq)) hso hn' hag hret
  obtain ⟨q0, h1, h2⟩ := List.mem_map.mp hq
  exact hl.2.2 q (List.mem_map.mpr ⟨q0, hin q0 h1, h2⟩)
/-- what may be taken as known of a frame's numbers -/
theorem Fr.know (k : (∀ q ∈ ls, okV K.length q.2) → Rng K H → Fr M d fc fs sc pc ls st K H Q) : Fr M d fc fs sc pc ls st K H Q := by
  intro p l e R s m args below meth c base b D aC n0 φ0 φ Hp locs cells slots lsA QM hC hR1 hR2 hc1 hc2 hP hS hl hlo hso hn' hag hret
  exact k hlo hP.2.2 p l e R s m args below meth c base b D aC n0 φ0 φ Hp locs cells slots lsA QM hC hR1 hR2 hc1 hc2 hP hS hl hlo hso hn' hag hret
/-- branches -/
theorem Fr.br {c0 : Prop} {tgt pc' : Nat} {st1 : List AV} (ho : (∀ v ∈ st1, okV K.length v) → ∀ v ∈ st, okV K.length v) (kt : c0 → Fr M d fc fs sc tgt ls st K H Q) (kf : ¬ c0 → Fr M d fc fs sc pc' ls st K H Q)
    (hw : ∀ {p : Program} {l : Launch} {e : Env} {R : Room} {s : State} {m : MethodId} {args : Array Value} {below : List Frame} {meth : Method} {c : Code} {Hp : Heap} {locs : List Loc} {cells slots : Nat} {QM : State → Prop} (φ : Nat → Nat) (b : Nat) (lsA : Array Slot), p.tables.exec = Jvm.exec → c.code = M.2.1 → (∀ v ∈ st1, okV K.length v) →
      (c0 → W p l e R s m args below meth c Hp locs cells slots QM (F0 m tgt lsA (st.map (toV φ b)))) → (¬ c0 → W p l e R s m args below meth c Hp locs cells slots QM (F0 m pc' lsA (st.map (toV φ b)))) → W p l e R s m args below meth c Hp locs cells slots QM (F0 m pc lsA (st1.map (toV φ b)))) : Fr M d fc fs sc pc ls st1 K H Q := by
  intro p l e R s m args below meth c base b D aC n0 φ0 φ Hp locs cells slots lsA QM hC hR1 hR2 hc1 hc2 hP hS hl hlo hso hn hag hret
  exact hw φ b lsA hC.1 hC.2.1 hso (fun h => kt h p l e R s m args below meth c base b D aC n0 φ0 φ Hp locs cells slots lsA QM hC hR1 hR2 hc1 hc2 hP hS hl hlo (ho hso) hn hag hret) (fun h => kf h p l e R s m args below meth c base b D aC n0 φ0 φ Hp locs cells slots lsA QM hC hR1 hR2 hc1 hc2 hP hS hl hlo (ho hso) hn hag hret)
theorem r_icmp_eq {x y off : Int} {tgt : Nat} (hd : decode M.2.1 pc = .ok (.if_icmp .eq off, 3)) (ht : (pc : Int) + off = (tgt : Int)) (kt : x = y → Fr M d fc fs sc tgt ls st K H Q) (kf : ¬ x = y → Fr M d fc fs sc (pc + 3) ls st K H Q) : Fr M d fc fs sc pc ls ((0, y) :: (0, x) :: st) K H Q :=
  Fr.br (fun o => (ok_2 o).2.2) kt kf fun φ b lsA hx hb o wt wf => lv_icmp_eq hx hb hd ht (fun h => wt ((i_eq (ok_2 o).2.1 (ok_2 o).1).mp h)) (fun h => wf (fun q => h ((i_eq (ok_2 o).2.1 (ok_2 o).1).mpr q)))
theorem r_icmp_ne {x y off : Int} {tgt : Nat} (hd : decode M.2.1 pc = .ok (.if_icmp .ne off, 3)) (ht : (pc : Int) + off = (tgt : Int)) (kt : ¬ x = y → Fr M d fc fs sc tgt ls st K H Q) (kf : x = y → Fr M d fc fs sc (pc + 3) ls st K H Q) : Fr M d fc fs sc pc ls ((0, y) :: (0, x) :: st) K H Q :=
  Fr.br (c0 := ¬ x = y) (fun o => (ok_2 o).2.2) kt (fun h => kf (Classical.not_not.mp h)) fun φ b lsA hx hb o wt wf => lv_icmp_ne hx hb hd ht (fun h => wt (fun q => h ((i_eq (ok_2 o).2.1 (ok_2 o).1).mpr q))) (fun h => wf (fun q => q ((i_eq (ok_2 o).2.1 (ok_2 o).1).mp h)))
theorem r_icmp_lt {x y off : Int} {tgt : Nat} (hd : decode M.2.1 pc = .ok (.if_icmp .lt off, 3)) (ht : (pc : Int) + off = (tgt : Int)) (kt : x < y → Fr M d fc fs sc tgt ls st K H Q) (kf : ¬ x < y → Fr M d fc fs sc (pc + 3) ls st K H Q) : Fr M d fc fs sc pc ls ((0, y) :: (0, x) :: st) K H Q :=
  Fr.br (fun o => (ok_2 o).2.2) kt kf fun φ b lsA hx hb o wt wf => lv_icmp_lt hx hb hd ht (fun h => wt ((i_lt (ok_2 o).2.1 (ok_2 o).1).mp h)) (fun h => wf (fun q => h ((i_lt (ok_2 o).2.1 (ok_2 o).1).mpr q)))
theorem r_icmp_ge {x y off : Int} {tgt : Nat} (hd : decode M.2.1 pc = .ok (.if_icmp .ge off, 3)) (ht : (pc : Int) + off = (tgt : Int)) (kt : ¬ x < y → Fr M d fc fs sc tgt ls st K H Q) (kf : x < y → Fr M d fc fs sc (pc + 3) ls st K H Q) : Fr M d fc fs sc pc ls ((0, y) :: (0, x) :: st) K H Q :=
  Fr.br (c0 := y ≤ x) (fun o => (ok_2 o).2.2) (fun h => kt (Int.not_lt.mpr h)) (fun h => kf (Int.not_le.mp h)) fun φ b lsA hx hb o wt wf => lv_icmp_ge hx hb hd ht (fun h => wt ((i_le (ok_2 o).1 (ok_2 o).2.1).mp h)) (fun h => wf (fun q => h ((i_le (ok_2 o).1 (ok_2 o).2.1).mpr q)))
theorem r_icmp_gt {x y off : Int} {tgt : Nat} (hd : decode M.2.1 pc = .ok (.if_icmp .gt off, 3)) (ht : (pc : Int) + off = (tgt : Int)) (kt : ¬ x ≤ y → Fr M d fc fs sc tgt ls st K H Q) (kf : x ≤ y → Fr M d fc fs sc (pc + 3) ls st K H Q) : Fr M d fc fs sc pc ls ((0, y) :: (0, x) :: st) K H Q :=
  Fr.br (c0 := y < x) (fun o => (ok_2 o).2.2) (fun h => kt (Int.not_le.mpr h)) (fun h => kf (Int.not_lt.mp h)) fun φ b lsA hx hb o wt wf => lv_icmp_gt hx hb hd ht (fun h => wt ((i_lt (ok_2 o).1 (ok_2 o).2.1).mp h)) (fun h => wf (fun q => h ((i_lt (ok_2 o).1 (ok_2 o).2.1).mpr q)))
theorem r_icmp_le {x y off : Int} {tgt : Nat} (hd : decode M.2.1 pc = .ok (.if_icmp .le off, 3)) (ht : (pc : Int) + off = (tgt : Int)) (kt : x ≤ y → Fr M d fc fs sc tgt ls st K H Q) (kf : ¬ x ≤ y → Fr M d fc fs sc (pc + 3) ls st K H Q) : Fr M d fc fs sc pc ls ((0, y) :: (0, x) :: st) K H Q :=
  Fr.br (fun o => (ok_2 o).2.2) kt kf fun φ b lsA hx hb o wt wf => lv_icmp_le hx hb hd ht (fun h => wt ((i_le (ok_2 o).2.1 (ok_2 o).1).mp h)) (fun h => wf (fun q => h ((i_le (ok_2 o).2.1 (ok_2 o).1).mpr q)))
theorem r_if_eq {x off : Int} {tgt : Nat} (hd : decode M.2.1 pc = .ok (.ifCond .eq off, 3)) (ht : (pc : Int) + off = (tgt : Int)) (kt : x = 0 → Fr M d fc fs sc tgt ls st K H Q) (kf : ¬ x = 0 → Fr M d fc fs sc (pc + 3) ls st K H Q) : Fr M d fc fs sc pc ls ((0, x) :: st) K H Q :=
  Fr.br (fun o => (ok_1 o).2) kt kf fun φ b lsA hx hb o wt wf => lv_if_eq hx hb hd ht (fun h => wt ((i_eq (ok_1 o).1 i_zero).mp h)) (fun h => wf (fun q => h ((i_eq (ok_1 o).1 i_zero).mpr q)))
theorem r_if_ne {x off : Int} {tgt : Nat} (hd : decode M.2.1 pc = .ok (.ifCond .ne off, 3)) (ht : (pc : Int) + off = (tgt : Int)) (kt : ¬ x = 0 → Fr M d fc fs sc tgt ls st K H Q) (kf : x = 0 → Fr M d fc fs sc (pc + 3) ls st K H Q) : Fr M d fc fs sc pc ls ((0, x) :: st) K H Q :=
  Fr.br (c0 := ¬ x = 0) (fun o => (ok_1 o).2) kt (fun h => kf (Classical.not_not.mp h)) fun φ b lsA hx hb o wt wf => lv_if_ne hx hb hd ht (fun h => wt (fun q => h ((i_eq (ok_1 o).1 i_zero).mpr q))) (fun h => wf (fun q => q ((i_eq (ok_1 o).1 i_zero).mp h)))
theorem r_if_lt {x off : Int} {tgt : Nat} (hd : decode M.2.1 pc = .ok (.ifCond .lt off, 3)) (ht : (pc : Int) + off = (tgt : Int)) (kt : x < 0 → Fr M d fc fs sc tgt ls st K H Q) (kf : ¬ x < 0 → Fr M d fc fs sc (pc + 3) ls st K H Q) : Fr M d fc fs sc pc ls ((0, x) :: st) K H Q :=
  Fr.br (fun o => (ok_1 o).2) kt kf fun φ b lsA hx hb o wt wf => lv_if_lt hx hb hd ht (fun h => wt ((i_lt (ok_1 o).1 i_zero).mp h)) (fun h => wf (fun q => h ((i_lt (ok_1 o).1 i_zero).mpr q)))
theorem r_if_ge {x off : Int} {tgt : Nat} (hd : decode M.2.1 pc = .ok (.ifCond .ge off, 3)) (ht : (pc : Int) + off = (tgt : Int)) (kt : ¬ x < 0 → Fr M d fc fs sc tgt ls st K H Q) (kf : x < 0 → Fr M d fc fs sc (pc + 3) ls st K H Q) : Fr M d fc fs sc pc ls ((0, x) :: st) K H Q :=
  Fr.br (c0 := 0 ≤ x) (fun o => (ok_1 o).2) (fun h => kt (Int.not_lt.mpr h)) (fun h => kf (Int.not_le.mp h)) fun φ b lsA hx hb o wt wf => lv_if_ge hx hb hd ht (fun h => wt ((i_le i_zero (ok_1 o).1).mp h)) (fun h => wf (fun q => h ((i_le i_zero (ok_1 o).1).mpr q)))
theorem r_if_gt {x off : Int} {tgt : Nat} (hd : decode M.2.1 pc = .ok (.ifCond .gt off, 3)) (ht : (pc : Int) + off = (tgt : Int)) (kt : ¬ x ≤ 0 → Fr M d fc fs sc tgt ls st K H Q) (kf : x ≤ 0 → Fr M d fc fs sc (pc + 3) ls st K H Q) : Fr M d fc fs sc pc ls ((0, x) :: st) K H Q :=
  Fr.br (c0 := 0 < x) (fun o => (ok_1 o).2) (fun h => kt (Int.not_le.mpr h)) (fun h => kf (Int.not_lt.mp h)) fun φ b lsA hx hb o wt wf => lv_if_gt hx hb hd ht (fun h => wt ((i_lt i_zero (ok_1 o).1).mp h)) (fun h => wf (fun q => h ((i_lt i_zero (ok_1 o).1).mpr q)))
theorem r_if_le {x off : Int} {tgt : Nat} (hd : decode M.2.1 pc = .ok (.ifCond .le off, 3)) (ht : (pc : Int) + off = (tgt : Int)) (kt : x ≤ 0 → Fr M d fc fs sc tgt ls st K H Q) (kf : ¬ x ≤ 0 → Fr M d fc fs sc (pc + 3) ls st K H Q) : Fr M d fc fs sc pc ls ((0, x) :: st) K H Q :=
  Fr.br (fun o => (ok_1 o).2) kt kf fun φ b lsA hx hb o wt wf => lv_if_le hx hb hd ht (fun h => wt ((i_le (ok_1 o).1 i_zero).mp h)) (fun h => wf (fun q => h ((i_le (ok_1 o).1 i_zero).mpr q)))
/-- a compare of longs: -1, 0, 1 -/
def cmpL (x y : Int) : Int := if y < x then 1 else if x = y then 0 else -1
theorem cmpL_in (x y : Int) : inI (cmpL x y) := by unfold cmpL inI; split <;> (try split) <;> omega
theorem cmpL_lt {x y : Int} : cmpL x y < 0 ↔ x < y := by unfold cmpL; split <;> (try split) <;> omega
theorem cmpL_le {x y : Int} : cmpL x y ≤ 0 ↔ x ≤ y := by unfold cmpL; split <;> (try split) <;> omega
theorem cmpL_eq {x y : Int} : cmpL x y = 0 ↔ x = y := by unfold cmpL; split <;> (try split) <;> omega
theorem rb_cmp_eq {x y : Int} (hx : inL x) (hy : inL y) : lg_cmp (Int64.ofInt x) (Int64.ofInt y) = Int32.ofInt (cmpL x y) := by
  unfold lg_cmp cmpL
  by_cases h1 : y < x
  · have := (l_lt hy hx).mpr h1
    simp [h1, this]; try rfl
  · have h1' : ¬ Int64.ofInt y < Int64.ofInt x := fun q => h1 ((l_lt hy hx).mp q)
    by_cases h2 : x = y
    · subst h2
      simp [h1']; try rfl
    · have h2' : ¬ Int64.ofInt x = Int64.ofInt y := fun q => h2 ((l_eq hx hy).mp q)
      simp [h1, h1', h2, h2']; try rfl
theorem r_lcmp {x y : Int} (hd : decode M.2.1 pc = .ok (.lcmp, 1)) (k : Fr M d fc fs sc (pc + 1) ls ((0, cmpL x y) :: st) K H Q) : Fr M d fc fs sc pc ls ((1, y) :: (1, x) :: st) K H Q :=
  Fr.pure k (fun o => ok_push (cmpL_in x y) (ok_2 o).2.2) (fun φ b lsA hx hb _ _ o w => W.lcmp hx hb hd (by
    rw [rb_cmp_eq (ok_2 o).2.1 (ok_2 o).1]; exact w))
end Rules2
end
section
/-! RULES, third part: fields and arrays -/
theorem rfv_ref {φ : Nat → Nat} {b : Nat} {X : Int} (h : 0 ≤ X) : rfv φ b X = .ref (φ X.toNat) := by
  unfold rfv; rw [if_neg (by omega), if_neg (by omega)]
theorem toV_ref {φ : Nat → Nat} {b : Nat} {X : Int} (h : 0 ≤ X) : toV φ b (2, X) = .ref (φ X.toNat) := rfv_ref h
def Cls (ci : Nat) (C : String) (T : u_T) (N : Nat) : Prop := ci < 13 ∧ vwCl[ci]? = some (C, T, N) ∧ (∀ w ∈ u_ws C T N, w ∈ lw_good) ∧ (∀ k, k < N → parseFieldDescriptor (T k).2.2.1 = some (fty ci k)) ∧ ∀ a, a < N → ∀ b, b < N → a ≠ b → (T a).2.1 ≠ (T b).2.1
theorem stOk {φ : Nat → Nat} {b n : Nat} {t : FieldType} {x : Int} (h : tyOk n t x) : narrow t (toV φ b (ftag t, x)) = toV φ b (ftag t, x) ∧ fits t (toV φ b (ftag t, x)) = true := by
  cases t with
  | int => exact ⟨rfl, rfl⟩
  | long => exact ⟨rfl, rfl⟩
  | boolean =>
    rcases h with h | h <;> subst h
    · show narrow .boolean (.int (Int32.ofInt 0)) = .int (Int32.ofInt 0) ∧ fits .boolean (.int (Int32.ofInt 0)) = true
      exact ⟨by decide +kernel, by decide +kernel⟩
    · show narrow .boolean (.int (Int32.ofInt 1)) = .int (Int32.ofInt 1) ∧ fits .boolean (.int (Int32.ofInt 1)) = true
      exact ⟨by decide +kernel, by decide +kernel⟩
  | object C =>
    show narrow (.object C) (rfv φ b x) = rfv φ b x ∧ fits (.object C) (rfv φ b x) = true
    unfold rfv; split <;> (try split) <;> exact ⟨rfl, rfl⟩
  | array C =>
    show narrow (.array C) (rfv φ b x) = rfv φ b x ∧ fits (.array C) (rfv φ b x) = true
    unfold rfv; split <;> (try split) <;> exact ⟨rfl, rfl⟩
  | _ => exact h.elim
theorem tyOk_okV {n : Nat} {t : FieldType} {x : Int} (h : tyOk n t x) : okV n (ftag t, x) := by
  cases t with
  | int => exact h
  | long => exact h
  | boolean => rcases h with h | h <;> subst h <;> exact ⟨by decide, by decide⟩
  | object C => exact h.2
  | array C => exact h.2
  | _ => exact h.elim
theorem rng_up {K : Shp} {H : Mem} {a k : Nat} {q : Nat × Nat} {x : Int} (h : Rng K H) (hk : K[a]? = some q) (hx : tyOk K.length (kty q.1 k) x) : Rng K (upA H a (up1 (H a) k x)) := by
  intro a' q' h' k' hk'
  unfold upA
  by_cases e : a' = a
  · subst e
    rw [hk] at h'
    cases h'
    rw [if_pos rfl]
    unfold up1
    by_cases e2 : k' = k
    · rw [if_pos e2, e2]; exact hx
    · rw [if_neg e2]; exact h a' q hk k' hk'
  · rw [if_neg e]; exact h a' q' h' k' hk'
theorem cell_obj {φ : Nat → Nat} {b : Nat} {aC : Nat → ClassId} {ci N : Nat} {f : Nat → Int} (h : ci < 13) : cellE φ b aC (ci, N) f = .inr (ci, (List.range N).map fun k => toV φ b (ftag (fty ci k), f k)) := by
  simp [cellE, h]
theorem cell_put {φ : Nat → Nat} {b : Nat} {aC : Nat → ClassId} {ci N k : Nat} {f : Nat → Int} {x : Int} (h : ci < 13) : (.inr (ci, ((List.range N).map fun k => toV φ b (ftag (fty ci k), f k)).set k (toV φ b (ftag (fty ci k), x))) : va_E) = cellE φ b aC (ci, N) (up1 f k x) := by
  rw [cell_obj h, range_set]
  congr 2
  apply List.map_congr_left
  intro j _
  by_cases e : j = k
  · subst e; simp [up1]
  · simp [up1, e]
section Rules3
variable {M : MM} {d fc fs : Nat} {sc : Option (Nat × (Nat → Int))} {pc : Nat} {ls : List (Nat × AV)} {st : List AV} {K : Shp} {H : Mem} {Q : Option AV → Shp → Mem → Prop}
variable {ci k N i : Nat} {C : String} {T : u_T} {X : Int}
theorem r_getf (cl : Cls ci C T N) (k : Nat) (hd : decode M.2.1 pc = .ok (.getfield i, 3)) (hk : k < N) (hw : Cond.fieldLink M.1.cls i (T k).1 (T k).2.1 (T k).2.2.1 ∈ lw_good) {tg : Nat} (ht : ftag (fty ci k) = tg) (h0 : 0 ≤ X) (hK : K[X.toNat]? = some (ci, N))
    (kk : Fr M d fc fs sc (pc + 3) ls ((tg, H X.toNat k) :: st) K H Q) : Fr M d fc fs sc pc ls ((2, X) :: st) K H Q := by
  subst ht
  intro p l e R s m args below meth c base b D aC n0 φ0 φ Hp locs cells slots lsA QM hC hR1 hR2 hc1 hc2 hP hS hl hlo hso hn hag hret
  obtain ⟨hx, hb, hr, hml, hown, hts, hnw, hKK, hlk, hnm, hbs, hsc⟩ := id hC
  have hat := ws_at (φ := φ) (b := b) (aC := aC) (H := H) hK
  rw [cell_obj cl.1] at hat
  have hok : tyOk K.length (fty ci k) (H X.toNat k) := by
    have := hP.2.2 X.toNat _ hK k hk
    rw [kty, if_pos cl.1] at this
    exact this
  have hw2 := kk p l e R s m args below meth c base b D aC n0 φ0 φ Hp locs cells slots lsA QM hC hR1 hR2 hc1 hc2 hP hS hl hlo (ok_push (tyOk_okV hok) (ok_1 hso).2) hn hag hret
  rw [List.map_cons, toV_ref h0]
  exact va_get hx hb hts cl.2.2.1 hown hKK hP.1 X.toNat hat cl.2.1 k hk (hts _ hw) (fun _ h => h) (v := toV φ b (ftag (fty ci k), H X.toNat k)) (by simp [hk]) hd hw2
theorem r_putf (cl : Cls ci C T N) (k : Nat) {x : Int} {tg : Nat} (hd : decode M.2.1 pc = .ok (.putfield i, 3)) (hk : k < N) (hf : (T k).2.2.2 = false) (hw : Cond.fieldLink M.1.cls i (T k).1 (T k).2.1 (T k).2.2.1 ∈ lw_good) (ht : ftag (fty ci k) = tg) (h0 : 0 ≤ X) (hK : K[X.toNat]? = some (ci, N)) (hx : okV K.length (tg, x) → tyOk K.length (fty ci k) x)
    (kk : Fr M d fc fs sc (pc + 3) ls st K (upA H X.toNat (up1 (H X.toNat) k x)) Q) : Fr M d fc fs sc pc ls ((tg, x) :: (2, X) :: st) K H Q := by
  subst ht
  intro p l e R s m args below meth c base b D aC n0 φ0 φ Hp locs cells slots lsA QM hC hR1 hR2 hc1 hc2 hP hS hl hlo hso hn hag hret
  obtain ⟨hxx, hb, hr, hml, hown, hts, hnw, hKK, hlk, hnm, hbs, hsc⟩ := id hC
  have hx := hx (ok_1 hso).1
  have hat := ws_at (φ := φ) (b := b) (aC := aC) (H := H) hK
  rw [cell_obj cl.1] at hat
  rw [List.map_cons, List.map_cons, toV_ref h0]
  refine va_put hxx hb hts cl.2.2.1 (fty ci) cl.2.2.2.1 cl.2.2.2.2 hown hKK hP.1 hP.2.1 hS X.toNat hat cl.2.1 k hk (hts _ hw) (fun _ h => h) hf (cl.2.2.2.1 k hk) (stOk hx).1 (stOk hx).2 (by simp [hk]) hd fun H1 locs1 hP1 hD1 hS1 => ?_
  rw [cell_put (aC := aC) cl.1, ws_set hK] at hP1 hD1
  exact kk p l e R s m args below meth c base b D aC n0 φ0 φ H1 locs1 cells slots lsA QM hC hR1 hR2 hc1 hc2 ⟨hP1, hD1, rng_up hP.2.2 hK (by rw [kty, if_pos cl.1]; exact hx)⟩ hS1 hl hlo (ok_2 hso).2.2 hn hag hret
/-- a final field, in a constructor -/
theorem r_putfF (cl : Cls ci C T N) (k : Nat) {x : Int} {tg : Nat} (hd : decode M.2.1 pc = .ok (.putfield i, 3)) (hk : k < N) (hf : (T k).2.2.2 = true) (hi : M.1.name = "<init>") (ho : (T k).1 = M.1.cls) (hw : Cond.fieldLink M.1.cls i (T k).1 (T k).2.1 (T k).2.2.1 ∈ lw_good) (ht : ftag (fty ci k) = tg) (h0 : 0 ≤ X) (hK : K[X.toNat]? = some (ci, N)) (hx : okV K.length (tg, x) → tyOk K.length (fty ci k) x)
    (kk : Fr M d fc fs sc (pc + 3) ls st K (upA H X.toNat (up1 (H X.toNat) k x)) Q) : Fr M d fc fs sc pc ls ((tg, x) :: (2, X) :: st) K H Q := by
  subst ht
  intro p l e R s m args below meth c base b D aC n0 φ0 φ Hp locs cells slots lsA QM hC hR1 hR2 hc1 hc2 hP hS hl hlo hso hn hag hret
  obtain ⟨hxx, hb, hr, hml, hown, hts, hnw, hKK, hlk, hnm, hbs, hsc⟩ := id hC
  have hx := hx (ok_1 hso).1
  have hat := ws_at (φ := φ) (b := b) (aC := aC) (H := H) hK
  rw [cell_obj cl.1] at hat
  rw [List.map_cons, List.map_cons, toV_ref h0]
  refine va_putF hxx hb hts cl.2.2.1 (fty ci) cl.2.2.2.1 cl.2.2.2.2 hown hKK hP.1 hP.2.1 hS X.toNat hat cl.2.1 k hk (hts _ hw) (fun _ h => h) hf (hnm.trans hi) ho (cl.2.2.2.1 k hk) (stOk hx).1 (stOk hx).2 (by simp [hk]) hd fun H1 locs1 hP1 hD1 hS1 => ?_
  rw [cell_put (aC := aC) cl.1, ws_set hK] at hP1 hD1
  exact kk p l e R s m args below meth c base b D aC n0 φ0 φ H1 locs1 cells slots lsA QM hC hR1 hR2 hc1 hc2 ⟨hP1, hD1, rng_up hP.2.2 hK (by rw [kty, if_pos cl.1]; exact hx)⟩ hS1 hl hlo (ok_2 hso).2.2 hn hag hret
/-- arrays -/
theorem cell_i {φ : Nat → Nat} {b : Nat} {aC : Nat → ClassId} {n : Nat} {f : Nat → Int} : cellE φ b aC (20, n) f = .inl (aC 20, n, .inl fun j => Int32.ofInt (f j)) := by simp [cellE]
theorem cell_z {φ : Nat → Nat} {b : Nat} {aC : Nat → ClassId} {n : Nat} {f : Nat → Int} : cellE φ b aC (22, n) f = .inl (aC 22, n, .inl fun j => Int32.ofInt (f j)) := by simp [cellE]
theorem cell_l {φ : Nat → Nat} {b : Nat} {aC : Nat → ClassId} {n : Nat} {f : Nat → Int} : cellE φ b aC (21, n) f = .inl (aC 21, n, .inr (.inl fun j => Int64.ofInt (f j))) := by simp [cellE]
theorem cell_23 {φ : Nat → Nat} {b : Nat} {aC : Nat → ClassId} {n : Nat} {f : Nat → Int} : cellE φ b aC (23, n) f = .inl (aC 23, n, .inr (.inr (.inr (.inr fun j => refE φ (f j))))) := by simp [cellE]
theorem cell_24 {φ : Nat → Nat} {b : Nat} {aC : Nat → ClassId} {n : Nat} {f : Nat → Int} : cellE φ b aC (24, n) f = .inl (aC 24, n, .inr (.inr (.inr (.inr fun j => refE φ (f j))))) := by simp [cellE]
theorem up32 {f : Nat → Int} {k : Nat} {x : Int} : upd (fun j => Int32.ofInt (f j)) k (Int32.ofInt x) = fun j => Int32.ofInt (up1 f k x j) := by
  funext j; unfold upd up1; split <;> rfl
theorem up64 {f : Nat → Int} {k : Nat} {x : Int} : vp_updL (fun j => Int64.ofInt (f j)) k (Int64.ofInt x) = fun j => Int64.ofInt (up1 f k x j) := by
  funext j; unfold vp_updL up1; split <;> rfl
variable {n : Nat} {j x : Int}
theorem r_iald (n : Nat) (hd : decode M.2.1 pc = .ok (.iaload, 1)) (h0 : 0 ≤ X) (hK : K[X.toNat]? = some (20, n)) (hj : 0 ≤ j) (hj2 : j < n)
    (kk : Fr M d fc fs sc (pc + 1) ls ((0, H X.toNat j.toNat) :: st) K H Q) : Fr M d fc fs sc pc ls ((0, j) :: (2, X) :: st) K H Q := by
  intro p l e R s m args below meth c base b D aC n0 φ0 φ Hp locs cells slots lsA QM hC hR1 hR2 hc1 hc2 hP hS hl hlo hso hn hag hret
  have hji : inI j := (ok_1 hso).1
  have hat := ws_at (φ := φ) (b := b) (aC := aC) (H := H) hK
  rw [cell_i] at hat
  have hok := hP.2.2 X.toNat _ hK j.toNat (by show j.toNat < n; omega)
  have hw2 := kk p l e R s m args below meth c base b D aC n0 φ0 φ Hp locs cells slots lsA QM hC hR1 hR2 hc1 hc2 hP hS hl hlo (ok_push hok (ok_2 hso).2.2) hn hag hret
  rw [List.map_cons, List.map_cons, toV_ref h0]
  refine va_iald hC.1 hC.2.1 hC.2.2.2.2.2.2.2.1 hP.1 X.toNat 0 hat rfl (i_in hji hj hj2) hd ?_
  rw [i_clamp hji]
  exact hw2
theorem r_zald (n : Nat) (hd : decode M.2.1 pc = .ok (.baload, 1)) (h0 : 0 ≤ X) (hK : K[X.toNat]? = some (22, n)) (hj : 0 ≤ j) (hj2 : j < n)
    (kk : Fr M d fc fs sc (pc + 1) ls ((0, H X.toNat j.toNat) :: st) K H Q) : Fr M d fc fs sc pc ls ((0, j) :: (2, X) :: st) K H Q := by
  intro p l e R s m args below meth c base b D aC n0 φ0 φ Hp locs cells slots lsA QM hC hR1 hR2 hc1 hc2 hP hS hl hlo hso hn hag hret
  have hji : inI j := (ok_1 hso).1
  have hat := ws_at (φ := φ) (b := b) (aC := aC) (H := H) hK
  rw [cell_z] at hat
  have hok : tyOk K.length .boolean _ := hP.2.2 X.toNat _ hK j.toNat (by show j.toNat < n; omega)
  have hw2 := kk p l e R s m args below meth c base b D aC n0 φ0 φ Hp locs cells slots lsA QM hC hR1 hR2 hc1 hc2 hP hS hl hlo (ok_push (tyOk_okV hok) (ok_2 hso).2.2) hn hag hret
  rw [List.map_cons, List.map_cons, toV_ref h0]
  refine va_zald hC.1 hC.2.1 hC.2.2.2.2.2.2.2.1 hP.1 X.toNat 2 hat rfl (i_in hji hj hj2) hd ?_
  rw [i_clamp hji]
  exact hw2
theorem r_lald (n : Nat) (hd : decode M.2.1 pc = .ok (.laload, 1)) (h0 : 0 ≤ X) (hK : K[X.toNat]? = some (21, n)) (hj : 0 ≤ j) (hj2 : j < n)
    (kk : Fr M d fc fs sc (pc + 1) ls ((1, H X.toNat j.toNat) :: st) K H Q) : Fr M d fc fs sc pc ls ((0, j) :: (2, X) :: st) K H Q := by
  intro p l e R s m args below meth c base b D aC n0 φ0 φ Hp locs cells slots lsA QM hC hR1 hR2 hc1 hc2 hP hS hl hlo hso hn hag hret
  have hji : inI j := (ok_1 hso).1
  have hat := ws_at (φ := φ) (b := b) (aC := aC) (H := H) hK
  rw [cell_l] at hat
  have hok : tyOk K.length .long _ := hP.2.2 X.toNat _ hK j.toNat (by show j.toNat < n; omega)
  have hw2 := kk p l e R s m args below meth c base b D aC n0 φ0 φ Hp locs cells slots lsA QM hC hR1 hR2 hc1 hc2 hP hS hl hlo (ok_push (tyOk_okV hok) (ok_2 hso).2.2) hn hag hret
  rw [List.map_cons, List.map_cons, toV_ref h0]
  refine va_lald hC.1 hC.2.1 hC.2.2.2.2.2.2.2.1 hP.1 X.toNat 1 hat rfl (i_in hji hj hj2) hd ?_
  rw [i_clamp hji]
  exact hw2
theorem rf_eq {φ : Nat → Nat} {b : Nat} {x : Int} (h : -1 ≤ x) : va_rf (refE φ x) = toV φ b (2, x) := by
  show _ = rfv φ b x
  unfold refE rfv
  by_cases h0 : x < 0
  · rw [if_pos h0, if_neg (by omega), if_pos h0]; rfl
  · rw [if_neg h0, if_neg (by omega), if_neg h0]; rfl
theorem r_aald (kd n : Nat) (hkd : kd = 23 ∨ kd = 24) (hd : decode M.2.1 pc = .ok (.aaload, 1)) (h0 : 0 ≤ X) (hK : K[X.toNat]? = some (kd, n)) (hj : 0 ≤ j) (hj2 : j < n)
    (kk : Fr M d fc fs sc (pc + 1) ls ((2, H X.toNat j.toNat) :: st) K H Q) : Fr M d fc fs sc pc ls ((0, j) :: (2, X) :: st) K H Q := by
  intro p l e R s m args below meth c base b D aC n0 φ0 φ Hp locs cells slots lsA QM hC hR1 hR2 hc1 hc2 hP hS hl hlo hso hn hag hret
  have hji : inI j := (ok_1 hso).1
  have hat := ws_at (φ := φ) (b := b) (aC := aC) (H := H) hK
  rcases hkd with rfl | rfl
  · rw [cell_23] at hat
    have hok : tyOk K.length (.object "") _ := hP.2.2 X.toNat _ hK j.toNat (by show j.toNat < n; omega)
    have hw2 := kk p l e R s m args below meth c base b D aC n0 φ0 φ Hp locs cells slots lsA QM hC hR1 hR2 hc1 hc2 hP hS hl hlo (ok_push (tyOk_okV hok) (ok_2 hso).2.2) hn hag hret
    rw [List.map_cons, List.map_cons, toV_ref h0]
    refine va_aldq hC.1 hC.2.1 hC.2.2.2.2.2.2.2.1 hP.1 X.toNat 3 hat rfl (i_in hji hj hj2) hd ?_
    rw [i_clamp hji, rf_eq (b := b) hok.1]
    exact hw2
  · rw [cell_24] at hat
    have hok : tyOk K.length (.object "") _ := hP.2.2 X.toNat _ hK j.toNat (by show j.toNat < n; omega)
    have hw2 := kk p l e R s m args below meth c base b D aC n0 φ0 φ Hp locs cells slots lsA QM hC hR1 hR2 hc1 hc2 hP hS hl hlo (ok_push (tyOk_okV hok) (ok_2 hso).2.2) hn hag hret
    rw [List.map_cons, List.map_cons, toV_ref h0]
    refine va_aldq hC.1 hC.2.1 hC.2.2.2.2.2.2.2.1 hP.1 X.toNat 4 hat rfl (i_in hji hj hj2) hd ?_
    rw [i_clamp hji, rf_eq (b := b) hok.1]
    exact hw2
theorem r_iast (n : Nat) (hd : decode M.2.1 pc = .ok (.iastore, 1)) (h0 : 0 ≤ X) (hK : K[X.toNat]? = some (20, n)) (hj : 0 ≤ j) (hj2 : j < n)
    (kk : Fr M d fc fs sc (pc + 1) ls st K (upA H X.toNat (up1 (H X.toNat) j.toNat x)) Q) : Fr M d fc fs sc pc ls ((0, x) :: (0, j) :: (2, X) :: st) K H Q := by
  intro p l e R s m args below meth c base b D aC n0 φ0 φ Hp locs cells slots lsA QM hC hR1 hR2 hc1 hc2 hP hS hl hlo hso hn hag hret
  have hji : inI j := (ok_2 hso).2.1
  have hat := ws_at (φ := φ) (b := b) (aC := aC) (H := H) hK
  rw [cell_i] at hat
  rw [List.map_cons, List.map_cons, List.map_cons, toV_ref h0]
  refine va_iast hC.1 hC.2.1 hC.2.2.2.2.2.2.2.1 hP.1 hP.2.1 hS X.toNat 0 hat rfl (i_in hji hj hj2) hd fun H1 locs1 hP1 hD1 hS1 => ?_
  rw [i_clamp hji, up32, ← cell_i (φ := φ) (b := b), ws_set hK] at hP1 hD1
  exact kk p l e R s m args below meth c base b D aC n0 φ0 φ H1 locs1 cells slots lsA QM hC hR1 hR2 hc1 hc2 ⟨hP1, hD1, rng_up hP.2.2 hK (ok_2 hso).1⟩ hS1 hl hlo (ok_1 (ok_2 hso).2.2).2 hn hag hret
theorem r_last (n : Nat) (hd : decode M.2.1 pc = .ok (.lastore, 1)) (h0 : 0 ≤ X) (hK : K[X.toNat]? = some (21, n)) (hj : 0 ≤ j) (hj2 : j < n)
    (kk : Fr M d fc fs sc (pc + 1) ls st K (upA H X.toNat (up1 (H X.toNat) j.toNat x)) Q) : Fr M d fc fs sc pc ls ((1, x) :: (0, j) :: (2, X) :: st) K H Q := by
  intro p l e R s m args below meth c base b D aC n0 φ0 φ Hp locs cells slots lsA QM hC hR1 hR2 hc1 hc2 hP hS hl hlo hso hn hag hret
  have hji : inI j := (ok_2 hso).2.1
  have hat := ws_at (φ := φ) (b := b) (aC := aC) (H := H) hK
  rw [cell_l] at hat
  rw [List.map_cons, List.map_cons, List.map_cons, toV_ref h0]
  refine va_last hC.1 hC.2.1 hC.2.2.2.2.2.2.2.1 hP.1 hP.2.1 hS X.toNat 1 hat rfl (i_in hji hj hj2) hd fun H1 locs1 hP1 hD1 hS1 => ?_
  rw [i_clamp hji, up64, ← cell_l (φ := φ) (b := b), ws_set hK] at hP1 hD1
  exact kk p l e R s m args below meth c base b D aC n0 φ0 φ H1 locs1 cells slots lsA QM hC hR1 hR2 hc1 hc2 ⟨hP1, hD1, rng_up hP.2.2 hK (ok_2 hso).1⟩ hS1 hl hlo (ok_1 (ok_2 hso).2.2).2 hn hag hret
theorem nar01 {x : Int} (h : x = 0 ∨ x = 1) : vp_nar .boolean (Int32.ofInt x) = Int32.ofInt x := by
  rcases h with h | h <;> subst h <;> decide +kernel
theorem r_zast (n : Nat) (hd : decode M.2.1 pc = .ok (.bastore, 1)) (h0 : 0 ≤ X) (hK : K[X.toNat]? = some (22, n)) (hj : 0 ≤ j) (hj2 : j < n) (hx : x = 0 ∨ x = 1)
    (kk : Fr M d fc fs sc (pc + 1) ls st K (upA H X.toNat (up1 (H X.toNat) j.toNat x)) Q) : Fr M d fc fs sc pc ls ((0, x) :: (0, j) :: (2, X) :: st) K H Q := by
  intro p l e R s m args below meth c base b D aC n0 φ0 φ Hp locs cells slots lsA QM hC hR1 hR2 hc1 hc2 hP hS hl hlo hso hn hag hret
  have hji : inI j := (ok_2 hso).2.1
  have hat := ws_at (φ := φ) (b := b) (aC := aC) (H := H) hK
  rw [cell_z] at hat
  rw [List.map_cons, List.map_cons, List.map_cons, toV_ref h0]
  refine va_zast hC.1 hC.2.1 hC.2.2.2.2.2.2.2.1 hP.1 hP.2.1 hS X.toNat 2 hat rfl (i_in hji hj hj2) hd fun H1 locs1 hP1 hD1 hS1 => ?_
  rw [i_clamp hji, nar01 hx, up32, ← cell_z (φ := φ) (b := b), ws_set hK] at hP1 hD1
  exact kk p l e R s m args below meth c base b D aC n0 φ0 φ H1 locs1 cells slots lsA QM hC hR1 hR2 hc1 hc2 ⟨hP1, hD1, rng_up hP.2.2 hK hx⟩ hS1 hl hlo (ok_1 (ok_2 hso).2.2).2 hn hag hret
theorem upRef {φ : Nat → Nat} {f : Nat → Int} {k : Nat} {x : Int} (h : 0 ≤ x) : va_up (fun j => refE φ (f j)) k (some (φ x.toNat)) = fun j => refE φ (up1 f k x j) := by
  funext j; unfold va_up up1
  split
  · unfold refE; rw [if_neg (by omega)]
  · rfl
/-- an object of class ci into an array of such -/
theorem r_aast (kd n : Nat) (hkd : kd = 23 ∧ ci = 4 ∨ kd = 24 ∧ ci = 7) (hd : decode M.2.1 pc = .ok (.aastore, 1)) (h0 : 0 ≤ X) (hK : K[X.toNat]? = some (kd, n)) (hj : 0 ≤ j) (hj2 : j < n) (hx0 : 0 ≤ x) (hxK : K[x.toNat]? = some (ci, N))
    (kk : Fr M d fc fs sc (pc + 1) ls st K (upA H X.toNat (up1 (H X.toNat) j.toNat x)) Q) : Fr M d fc fs sc pc ls ((2, x) :: (0, j) :: (2, X) :: st) K H Q := by
  intro p l e R s m args below meth c base b D aC n0 φ0 φ Hp locs cells slots lsA QM hC hR1 hR2 hc1 hc2 hP hS hl hlo hso hn hag hret
  have hji : inI j := (ok_2 hso).2.1
  have hat := ws_at (φ := φ) (b := b) (aC := aC) (H := H) hK
  have hax := ws_at (φ := φ) (b := b) (aC := aC) (H := H) hxK
  have hxl : x < K.length := (ok_2 hso).1
  rw [List.map_cons, List.map_cons, List.map_cons, toV_ref h0, toV_ref hx0]
  rcases hkd with ⟨rfl, rfl⟩ | ⟨rfl, rfl⟩
  · rw [cell_23] at hat
    rw [cell_obj (by decide)] at hax
    refine va_astq hC.1 hC.2.1 hC.2.2.2.2.2.2.2.1 hP.1 hP.2.1 hS X.toNat 3 x.toNat 4 (r := (RX4, TX4, 18)) hat rfl hax rfl (i_in hji hj hj2) hd fun H1 locs1 hP1 hD1 hS1 => ?_
    rw [i_clamp hji, upRef hx0, ← cell_23 (φ := φ) (b := b), ws_set hK] at hP1 hD1
    exact kk p l e R s m args below meth c base b D aC n0 φ0 φ H1 locs1 cells slots lsA QM hC hR1 hR2 hc1 hc2 ⟨hP1, hD1, rng_up hP.2.2 hK ⟨by omega, hxl⟩⟩ hS1 hl hlo (ok_1 (ok_2 hso).2.2).2 hn hag hret
  · rw [cell_24] at hat
    rw [cell_obj (by decide)] at hax
    refine va_astq hC.1 hC.2.1 hC.2.2.2.2.2.2.2.1 hP.1 hP.2.1 hS X.toNat 4 x.toNat 7 (r := (RX7, TX7, 5)) hat rfl hax rfl (i_in hji hj hj2) hd fun H1 locs1 hP1 hD1 hS1 => ?_
    rw [i_clamp hji, upRef hx0, ← cell_24 (φ := φ) (b := b), ws_set hK] at hP1 hD1
    exact kk p l e R s m args below meth c base b D aC n0 φ0 φ H1 locs1 cells slots lsA QM hC hR1 hR2 hc1 hc2 ⟨hP1, hD1, rng_up hP.2.2 hK ⟨by omega, hxl⟩⟩ hS1 hl hlo (ok_1 (ok_2 hso).2.2).2 hn hag hret
theorem r_alen (kd n t0 : Nat) {ty : FieldType} (hd : decode M.2.1 pc = .ok (.arraylength, 1)) (h0 : 0 ≤ X) (hK : K[X.toNat]? = some (kd, n)) (hkd : kd = 20 ∨ kd = 21) (hn2 : n < 2147483648)
    (kk : Fr M d fc fs sc (pc + 1) ls ((0, (n : Int)) :: st) K H Q) : Fr M d fc fs sc pc ls ((2, X) :: st) K H Q := by
  intro p l e R s m args below meth c base b D aC n0 φ0 φ Hp locs cells slots lsA QM hC hR1 hR2 hc1 hc2 hP hS hl hlo hso hn hag hret
  have hat := ws_at (φ := φ) (b := b) (aC := aC) (H := H) hK
  have hw2 := kk p l e R s m args below meth c base b D aC n0 φ0 φ Hp locs cells slots lsA QM hC hR1 hR2 hc1 hc2 hP hS hl hlo (ok_push (⟨by omega, by omega⟩ : inI (n : Int)) (ok_1 hso).2) hn hag hret
  rw [List.map_cons, toV_ref h0]
  rcases hkd with rfl | rfl
  · rw [cell_i] at hat
    exact va_alen hC.1 hC.2.1 hC.2.2.2.2.2.2.2.1 hP.1 X.toNat 0 hat (ty := .int) rfl (Int32.ofInt_eq_ofNat).symm hd hw2
  · rw [cell_l] at hat
    exact va_alen hC.1 hC.2.1 hC.2.2.2.2.2.2.2.1 hP.1 X.toNat 1 hat (ty := .long) rfl (Int32.ofInt_eq_ofNat).symm hd hw2
/-- the law's script -/
theorem r_sald {L : Nat} {xs : Nat → Int} (hsc : sc = some (L, xs)) (hd : decode M.2.1 pc = .ok (.iaload, 1)) (hj : 0 ≤ j) (hj2 : j < L)
    (kk : Fr M d fc fs sc (pc + 1) ls ((0, xs j.toNat) :: st) K H Q) : Fr M d fc fs sc pc ls ((0, j) :: (2, -2) :: st) K H Q := by
  intro p l e R s m args below meth c base b D aC n0 φ0 φ Hp locs cells slots lsA QM hC hR1 hR2 hc1 hc2 hP hS hl hlo hso hn hag hret
  have hji : inI j := (ok_1 hso).1
  obtain ⟨hX, hb1, hb2, hL, hxs⟩ := hC.2.2.2.2.2.2.2.2.2.2.2 L xs hsc
  have hw2 := kk p l e R s m args below meth c base b D aC n0 φ0 φ Hp locs cells slots lsA QM hC hR1 hR2 hc1 hc2 hP hS hl hlo (ok_push (hxs j.toNat (by omega)) (ok_2 hso).2.2) hn hag hret
  refine va_sld hC.1 hC.2.1 hX hb1 (A := fun q => base ≤ q) (Nat.not_le.mpr hb2) hS (i_in hji hj hj2) hd ?_
  rw [i_clamp hji]
  exact hw2
theorem r_slen {L : Nat} {xs : Nat → Int} (hsc : sc = some (L, xs)) (hd : decode M.2.1 pc = .ok (.arraylength, 1))
    (kk : Fr M d fc fs sc (pc + 1) ls ((0, (L : Int)) :: st) K H Q) : Fr M d fc fs sc pc ls ((2, -2) :: st) K H Q := by
  intro p l e R s m args below meth c base b D aC n0 φ0 φ Hp locs cells slots lsA QM hC hR1 hR2 hc1 hc2 hP hS hl hlo hso hn hag hret
  obtain ⟨hX, hb1, hb2, hL, hxs⟩ := hC.2.2.2.2.2.2.2.2.2.2.2 L xs hsc
  have hw2 := kk p l e R s m args below meth c base b D aC n0 φ0 φ Hp locs cells slots lsA QM hC hR1 hR2 hc1 hc2 hP hS hl hlo (ok_push (⟨by omega, by omega⟩ : inI (L : Int)) (ok_1 hso).2) hn hag hret
  refine va_slen hC.1 hC.2.1 hX hb1 (A := fun q => base ≤ q) (Nat.not_le.mpr hb2) hS hd ?_
  have e : Int32.ofNat L = Int32.ofInt (L : Int) := (Int32.ofInt_eq_ofNat).symm
  rw [e]
  exact hw2
end Rules3
end
section
/-! RULES, fourth part: returns, the entry, calls, new cells -/
section Ends
variable {M : MM} {d fc fs : Nat} {sc : Option (Nat × (Nat → Int))} {pc : Nat} {ls : List (Nat × AV)} {st : List AV} {K : Shp} {H : Mem} {Q : Option AV → Shp → Mem → Prop}
theorem r_iret {x : Int} (hd : decode M.2.1 pc = .ok (.ireturn, 1)) (hr : M.2.2.2 = some .int) (h : Q (some (0, x)) K H) : Fr M d fc fs sc pc ls [(0, x)] K H Q := by
  intro p l e R s m args below meth c base b D aC n0 φ0 φ Hp locs cells slots lsA QM hC hR1 hR2 hc1 hc2 hP hS hl hlo hso hn hag hret
  exact hret (some (0, x)) K H φ Hp locs cells slots pc lsA h hP hS (by omega) (by omega) hn hag (Or.inl ⟨x, rfl, (ok_1 hso).1, hd, Or.inl hr⟩)
theorem r_zret {x : Int} (hd : decode M.2.1 pc = .ok (.ireturn, 1)) (hr : M.2.2.2 = some .boolean) (hx : x = 0 ∨ x = 1) (h : Q (some (0, x)) K H) : Fr M d fc fs sc pc ls [(0, x)] K H Q := by
  intro p l e R s m args below meth c base b D aC n0 φ0 φ Hp locs cells slots lsA QM hC hR1 hR2 hc1 hc2 hP hS hl hlo hso hn hag hret
  exact hret (some (0, x)) K H φ Hp locs cells slots pc lsA h hP hS (by omega) (by omega) hn hag (Or.inl ⟨x, rfl, (ok_1 hso).1, hd, Or.inr ⟨hr, hx⟩⟩)
theorem r_lret {x : Int} (hd : decode M.2.1 pc = .ok (.lreturn, 1)) (hr : M.2.2.2 = some .long) (h : Q (some (1, x)) K H) : Fr M d fc fs sc pc ls [(1, x)] K H Q := by
  intro p l e R s m args below meth c base b D aC n0 φ0 φ Hp locs cells slots lsA QM hC hR1 hR2 hc1 hc2 hP hS hl hlo hso hn hag hret
  exact hret (some (1, x)) K H φ Hp locs cells slots pc lsA h hP hS (by omega) (by omega) hn hag (Or.inr (Or.inl ⟨x, rfl, (ok_1 hso).1, hd, hr⟩))
theorem r_vret (hd : decode M.2.1 pc = .ok (.return_, 1)) (hr : M.2.2.2 = none) (h : Q none K H) : Fr M d fc fs sc pc ls [] K H Q := by
  intro p l e R s m args below meth c base b D aC n0 φ0 φ Hp locs cells slots lsA QM hC hR1 hR2 hc1 hc2 hP hS hl hlo hso hn hag hret
  exact hret none K H φ Hp locs cells slots pc lsA h hP hS (by omega) (by omega) hn hag (Or.inr (Or.inr ⟨rfl, hd, hr⟩))
theorem good_in {w : Cond} (h : w ∈ lw_good) : (w.onTables && w.keeps) = true ∨ ∃ ty, w = .arrayClass ty := good_of_word (List.mem_filter.mp h).2
/-- THE ENTRY: a contract is the walk of its body -/
theorem Call.of {mc ms : Nat} {args : List AV} (hpl : plainName M.1.cls = true) (hw : wid args ≤ M.2.2.1) (h : (∀ v ∈ args, okV K.length v) → Rng K H → Fr M d mc ms none 0 (argL 0 args) [] K H Q) : Call M d mc ms args K H Q := by
  intro l base b D aC φ
  refine Met.ofW (cc := M.2.1) (maxL := M.2.2.1) (ret := M.2.2.2) (ws' := lw_good) hpl rfl ?_
  intro p e s m args' below meth c s₁ B hml hv
  obtain ⟨rfl, hnw, hK, hbs, hRp, hok⟩ := hv
  have hts := atoms_spec (ws := wsM M) B.pre
  have hown : s.vm.findClass M.1.cls = some m.cls := findClass_of_methodNamed B.named
  have hl := lv_entry (args.map (toV φ b)) (n := M.2.2.1) (by rw [wid_eq]; exact hw)
  rw [argL_eq] at hl
  rw [lg_entry_eq]
  refine h hok hRp.2.2 p l e _ s m _ below meth c base b D aC K.length φ φ s.heap [] 0 0 _ _ ⟨B.exec, B.bytes, B.returns, hml, hown, fun w hw => hts w (List.mem_cons_of_mem _ hw), hnw, hK, B.notSynchronized, (name_of_methodNamed B.named B.method).1, hbs, fun _ _ h => by cases h⟩ (Nat.le_refl _) (Nat.le_refl _) (Nat.le_of_eq (Nat.zero_add _)) (Nat.le_of_eq (Nat.zero_add _)) hRp va_S.rf hl (fun q hq => hok _ (argL_mem _ _ _ hq)) (fun _ h => by cases h) (Nat.le_refl _) (fun _ _ => rfl) ?_
  intro r K' H' φ' Hp locs cells slots pc' ls' hQ hR hS hc1 hc2 hn hag hret
  have hlk := B.notSynchronized
  refine W.widen (k := mc) (n := ms) hc1 hc2 ?_
  rcases hret with ⟨x, rfl, hx, hd, hr⟩ | ⟨x, rfl, hx, hd, hr⟩ | ⟨rfl, hd, hr⟩
  · have hq : ∀ t : State, t.heap = Hp → s.WarmedH t.vm → QcM base b D aC φ K Q (args.map (toV φ b)).toArray s (.returned (some (.int (Int32.ofInt x)))) t := fun t ht _ =>
      ⟨⟨some (0, x), K', H', φ', rfl, fun v e => by cases e; exact ⟨(by show 0 < 2; decide), hx⟩, hQ, by rw [ht]; exact hR, hn, hag⟩, hS.F ht⟩
    rcases hr with hr | ⟨hr, h01⟩
    · exact W.iret B.exec B.bytes (B.returns.trans hr) hq hS.2.2 hd hlk
    · refine W.zret B.exec B.bytes (B.returns.trans hr) ?_ hq hS.2.2 hd hlk
      rcases h01 with h | h <;> subst h <;> decide +kernel
  · exact W.lret B.exec B.bytes (B.returns.trans hr) (fun t ht _ => ⟨⟨some (1, x), K', H', φ', rfl, fun v e => by cases e; exact ⟨(by show 1 < 2; decide), hx⟩, hQ, by rw [ht]; exact hR, hn, hag⟩, hS.F ht⟩) hS.2.2 hd hlk
  · exact W.vret B.exec B.bytes (B.returns.trans hr) (fun t ht _ => ⟨⟨none, K', H', φ', rfl, fun v e => (by cases e), hQ, by rw [ht]; exact hR, hn, hag⟩, hS.F ht⟩) hS.2.2 hd hlk
end Ends
/-- what is said of a method that is called -/
def MOK (M : MM) (n : Nat) : Prop := Cond.code M.1 M.2.1 M.2.2.1 M.2.2.2 ∈ lw_good ∧ Cond.initialized M.1.cls ∈ lw_good ∧ (M.1.cls ≠ "java/lang/invoke/MethodHandle" ∧ M.1.cls ≠ "java/lang/invoke/VarHandle" ∧ (parseMethodDescriptor M.1.desc).map (fun d => d.parameters.length) = some n) ∧ M.2.2.1 ≤ 20
theorem toV_same {φ φ' : Nat → Nat} {b n : Nat} (h : ∀ a, a < n → φ' a = φ a) {v : AV} (hv : okV n v) : toV φ' b v = toV φ b v := by
  obtain ⟨t, x⟩ := v
  match t, hv with
  | 0, _ => rfl
  | 1, _ => rfl
  | t + 2, hv =>
    show rfv φ' b x = rfv φ b x
    have hx : x < n := hv
    unfold rfv
    split
    · rfl
    · split
      · rfl
      · rw [h x.toNat (by omega)]
theorem map_same {φ φ' : Nat → Nat} {b n : Nat} (h : ∀ a, a < n → φ' a = φ a) {st : List AV} (hv : ∀ v ∈ st, okV n v) : st.map (toV φ' b) = st.map (toV φ b) :=
  List.map_congr_left fun v hm => toV_same h (hv v hm)
theorem okV_mono {n n' : Nat} (h : n ≤ n') {v : AV} (hv : okV n v) : okV n' v := by
  obtain ⟨t, x⟩ := v
  match t, hv with
  | 0, hv => exact hv
  | 1, hv => exact hv
  | t + 2, hv =>
    have hx : x < n := hv
    show x < n'
    omega
theorem nest_moved {s U : State} (hW : s.WarmedH U.vm) (h : ∀ w ∈ lw_nest, va_Nw w s) : ∀ w ∈ lw_nest, va_Nw w U := by
  intro w hw
  have hn := (List.mem_filter.mp hw).2
  have h0 := h w hw
  cases w <;> first | exact va_Nw.warmM hW h0 | (exfalso; revert hn; simp [isNest])
theorem nest_same {U V : State} (hv : U.vm = V.vm) (h : ∀ w ∈ lw_nest, va_Nw w U) : ∀ w ∈ lw_nest, va_Nw w V := by
  intro w hw
  have hn := (List.mem_filter.mp hw).2
  have h0 := h w hw
  cases w <;> first | exact va_Nw.same rfl hv h0 | (exfalso; revert hn; simp [isNest])
section Calls2
variable {M M' : MM} {d fc fs mc ms : Nat} {sc : Option (Nat × (Nat → Int))} {pc i : Nat} {ls : List (Nat × AV)} {st As : List AV} {K : Shp} {H : Mem} {Q Q1 : Option AV → Shp → Mem → Prop} {X : Int}
theorem blindP {base b : Nat} {D : va_G} {aC : Nat → ClassId} {φ : Nat → Nat} {args : List AV} {K : Shp} {H : Mem} : FrameBlind (PcM base b D aC φ args K H) := by
  intro a U g mk q
  obtain ⟨q0, q1, q2, q3, q4, q5⟩ := q
  exact ⟨q0, nest_same (U := U) (V := U.calling g mk a) rfl q1, va_K.moved (u := U) (U := U.calling g mk a) (Vm.Alike.refl U.vm) q2, q3, q4, q5⟩
/-- behind a call, whatever its kind -/
theorem after_call {p : Program} {l : Launch} {e : Env} {R : Room} {s : State} {m : MethodId} {args : Array Value} {below : List Frame} {meth : Method} {c : Code} {base b : Nat} {D : va_G} {aC : Nat → ClassId} {n0 : Nat} {φ0 φ : Nat → Nat} {Hp : Heap} {locs : List Loc} {cells slots : Nat} {lsA : Array Slot} {QM : State → Prop} {a : Array Value} {st0 : List Value}
    (hr : va_Run p l e R s m args below meth c Hp locs cells slots mc ms (F0 m pc lsA st0) (st.map (toV φ b)) (QcM base b D aC φ K Q1 a) (fun q => base ≤ q))
    (kk : ∀ (r : Option AV) (K' : Shp) (H' : Mem), Q1 r K' H' → K.length ≤ K'.length → Fr M (d + 1) fc fs sc (pc + 3) ls (r.toList ++ st) K' H' Q)
    (hC : Cx M sc p s m args meth c base b D aC) (hR1 : d + 1 ≤ R.frames) (hR2 : 40 * (d + 1) ≤ R.locals) (hc1 : cells + mc + fc ≤ R.cells) (hc2 : slots + ms + fs ≤ R.slots) (hS : va_S (fun q => base ≤ q) s.heap Hp locs) (hl : lv_has lsA M.2.2.1 (ls.map fun q => (q.1, toV φ b q.2))) (hlo : ∀ q ∈ ls, okV K.length q.2) (hso : ∀ v ∈ st, okV K.length v)
    (hn : n0 ≤ K.length) (hag : ∀ a, a < n0 → φ a = φ0 a) (hret : Ret M p l e R s m args below meth c base b D aC n0 φ0 QM Q) : W p l e R s m args below meth c Hp locs cells slots QM (F0 m pc lsA st0) := by
  intro T hT X
  obtain ⟨v, st₀, t, T', L, h0, X', hL, e1, e2, ⟨⟨r, K', H', φ', hv, hvo, hQ, hRp, hlen, hag'⟩, hz, hk⟩, hst⟩ := hr T hT X
  cases hv
  rw [h0] at hz hk
  have hS' : va_S (fun q => base ≤ q) s.heap t.heap (locs ++ L) := ⟨Nat.le_trans hS.1 hz, fun q h1 h2 => by rw [hk q (Nat.lt_of_lt_of_le h1 hS.1) h2]; exact hS.2.1 q h1 h2, fun q hq => by
    rcases List.mem_append.mp hq with h | h
    · exact hS.2.2 q h
    · exact hL q h⟩
  have hl' : lv_has lsA M.2.2.1 (ls.map fun q => (q.1, toV φ' b q.2)) := by
    have e : (ls.map fun q => (q.1, toV φ' b q.2)) = ls.map fun q => (q.1, toV φ b q.2) := List.map_congr_left fun q hq => by rw [toV_same hag' (hlo q hq)]
    rw [e]; exact hl
  have hso' : ∀ v ∈ r.toList ++ st, okV K'.length v := by
    intro v hv
    rcases List.mem_append.mp hv with h | h
    · have e : r = some v := by cases r with
        | none => cases h
        | some w => simp at h; rw [h]
      obtain ⟨h1, h2⟩ := hvo v e
      exact okV_mono (Nat.zero_le _) h2
    · exact okV_mono hlen (hso v h)
  have hW := kk r K' H' hQ hlen p l e R s m args below meth c base b D aC n0 φ0 φ' t.heap (locs ++ L) (cells + mc) (slots + ms) lsA QM hC hR1 hR2 hc1 hc2 hRp hS' hl' (fun q hq => okV_mono hlen (hlo q hq)) hso' (Nat.le_trans hn hlen) (fun a ha => (hag' a (Nat.lt_of_lt_of_le ha hn)).trans (hag a ha)) hret
  obtain ⟨t2, a1, b1⟩ := hW T' e1 X'
  refine ⟨t2, hst t2 ?_, b1⟩
  have e3 : (r.map (toV φ' b)).toList ++ st.map (toV φ b) = (r.toList ++ st).map (toV φ' b) := by
    rw [List.map_append, map_same hag' hso]
    cases r <;> rfl
  rw [e3]
  exact a1
theorem pre_call {s : State} {base b : Nat} {D : va_G} {aC : Nat → ClassId} {φ : Nat → Nat} {Hp : Heap} {locs : List Loc} {args : List AV} {h0 : List Value} (he : args.map (toV φ b) = h0) (hnw : ∀ w ∈ lw_nest, va_Nw w s) (hK : va_K D vwCl (tysOf aC) s) (hbs : base ≤ s.heap.size) (hS : va_S (fun q => base ≤ q) s.heap Hp locs) (hP : Rp base b D aC φ K H Hp) (hok : ∀ v ∈ args, okV K.length v) :
    ∀ U : State, U.heap = Hp → s.WarmedH U.vm → PcM base b D aC φ args K H h0.toArray U := by
  intro U hU hW
  subst he
  exact ⟨rfl, nest_moved hW hnw, va_K.moved hW.alike hK, by rw [hU]; exact Nat.le_trans hbs hS.1, by rw [hU]; exact hP, hok⟩
theorem good_ws (h : Cond.code M'.1 M'.2.1 M'.2.2.1 M'.2.2.2 ∈ lw_good) : GoodIn lw_good (wsM M') := fun w hw => (List.mem_cons.mp hw).elim (fun e => by rw [e]; exact ⟨h, good_in h⟩) (fun h => ⟨h, good_in h⟩)
theorem wid_st (φ : Nat → Nat) (b : Nat) (st : List AV) : ((st.map (toV φ b)).map fun v => v.category).sum = wid st := by
  induction st with
  | nil => rfl
  | cons v st ih =>
    simp only [List.map_cons, List.sum_cons, cat_toV, wid] at ih ⊢
    omega
/-- a call of an instance method by invokevirtual -/
theorem r_invV {ci n N : Nat} {T : u_T} (hM : Call M' d mc ms ((2, X) :: As) K H Q1) (hm : MOK M' n) (cl : Cls ci M'.1.cls T N) (hin : Cond.instanceMethod M'.1 ∈ lw_good) (hse : Cond.selects M'.1.cls M'.1 M'.1 ∈ lw_good) (hli : Cond.methodLink M.1.cls i M'.1 ∈ lw_good) (hd : decode M.2.1 pc = .ok (.invokevirtual i, 3)) (hn : As.length = n) (h0 : 0 ≤ X) (hK : K[X.toNat]? = some (ci, N)) (hst : wid st ≤ 8) {sti : List AV} (hsti : sti = As.reverse ++ (2, X) :: st)
    (kk : ∀ (r : Option AV) (K' : Shp) (H' : Mem), Q1 r K' H' → K.length ≤ K'.length → Fr M (d + 1) fc fs sc (pc + 3) ls (r.toList ++ st) K' H' Q) : Fr M (d + 1) (mc + fc) (ms + fs) sc pc ls sti K H Q := by
  subst hsti
  intro p l e R s m args below meth c base b D aC n0 φ0 φ Hp locs cells slots lsA QM hC hR1 hR2 hc1 hc2 hP hS hl hlo hso hn0 hag hret
  obtain ⟨hx, hb, hr, hml, hown, hts, hnw, hKK, hlk, hnm, hbs, hsc⟩ := id hC
  have hokA : ∀ v ∈ (2, X) :: As, okV K.length v := fun v hv => hso v (by
    rcases List.mem_cons.mp hv with rfl | h
    · simp
    · simp [h])
  have hokS : ∀ v ∈ st, okV K.length v := fun v hv => hso v (by simp [hv])
  have hat := ws_at (φ := φ) (b := b) (aC := aC) (H := H) hK
  rw [cell_obj cl.1] at hat
  have e0 : ((2, X) :: As).map (toV φ b) = .ref (φ X.toNat) :: As.map (toV φ b) := by rw [List.map_cons, toV_ref h0]
  refine after_call (va_runV (As := As.map (toV φ b)) (rest := st.map (toV φ b)) (Ts := lw_good) (nL := M.2.2.1) ⟨hx, hb, hml, hown, hts⟩ (hM l base b D aC φ) (bytes := M'.2.1) (maxL := M'.2.2.1) (ret := M'.2.2.2) (C := M'.1.cls) (n := n) (index := i) (b := φ X.toNat)
    ⟨callB_of n hts (good_ws hm.1) rfl rfl rfl (hts _ hm.2.1) (hts _ hli) hm.2.2.1 ⟨hR1, by have := hm.2.2.2; show 8 + (M'.2.2.1 + 11) + 40 * d ≤ R.locals; omega⟩, hts _ hin, hts _ hse⟩
    ⟨blindP, va_recv hKK hP.1 cl.2.1 hat, pre_call e0 hnw hKK hbs hS hP hokA⟩ rfl (by rw [List.length_map]; exact hn) hl.1 (by simp [toV_ref h0]) (lv_room (by rw [wid_st]; exact hst)) hd ⟨by omega, by omega⟩) kk hC hR1 hR2 (by omega) (by omega) hS hl hlo hokS hn0 hag hret
/-- a static method -/
theorem r_invS {n : Nat} (hM : Call M' d mc ms As K H Q1) (hm : MOK M' n) (hin : Cond.static M'.1 ∈ lw_good) (hli : Cond.methodLink M.1.cls i M'.1 ∈ lw_good) (hd : decode M.2.1 pc = .ok (.invokestatic i, 3)) (hn : As.length = n) (hst : wid st ≤ 8) {sti : List AV} (hsti : sti = As.reverse ++ st)
    (kk : ∀ (r : Option AV) (K' : Shp) (H' : Mem), Q1 r K' H' → K.length ≤ K'.length → Fr M (d + 1) fc fs sc (pc + 3) ls (r.toList ++ st) K' H' Q) : Fr M (d + 1) (mc + fc) (ms + fs) sc pc ls sti K H Q := by
  subst hsti
  intro p l e R s m args below meth c base b D aC n0 φ0 φ Hp locs cells slots lsA QM hC hR1 hR2 hc1 hc2 hP hS hl hlo hso hn0 hag hret
  obtain ⟨hx, hb, hr, hml, hown, hts, hnw, hKK, hlk, hnm, hbs, hsc⟩ := id hC
  have hokA : ∀ v ∈ As, okV K.length v := fun v hv => hso v (by simp [hv])
  have hokS : ∀ v ∈ st, okV K.length v := fun v hv => hso v (by simp [hv])
  refine after_call (va_runS (As := As.map (toV φ b)) (rest := st.map (toV φ b)) (Ts := lw_good) (nL := M.2.2.1) ⟨hx, hb, hml, hown, hts⟩ (hM l base b D aC φ) (bytes := M'.2.1) (maxL := M'.2.2.1) (ret := M'.2.2.2) (n := n) (index := i)
    ⟨callB_of n hts (good_ws hm.1) rfl rfl rfl (hts _ hm.2.1) (hts _ hli) hm.2.2.1 ⟨hR1, by have := hm.2.2.2; show 8 + (M'.2.2.1 + 11) + 40 * d ≤ R.locals; omega⟩, hts _ hin⟩
    ⟨blindP, pre_call rfl hnw hKK hbs hS hP hokA⟩ rfl (by rw [List.length_map]; exact hn) hl.1 (by simp) (lv_room (by rw [wid_st]; exact hst)) hd ⟨by omega, by omega⟩) kk hC hR1 hR2 (by omega) (by omega) hS hl hlo hokS hn0 hag hret
theorem nest_cn {R : Room} {s : State} {args : Array Value} {own host : String} {n : Nat} (hts : ∀ w ∈ lw_good, w.before args s = true) (hnw : ∀ w ∈ lw_nest, va_Nw w s) (hm : MOK M' n) (hli : Cond.methodLinkNest own i M'.1 host ∈ lw_nest) (hR1 : d + 1 ≤ R.frames) (hR2 : 40 * (d + 1) ≤ R.locals) : va_CN R s args own i M'.1 host M'.2.1 M'.2.2.1 M'.2.2.2 (wsM M') (rmOf d mc ms) mc ms n :=
  va_cnB n hts (good_ws hm.1) rfl rfl rfl (hnw _ hli) (hts _ hm.2.1) hm.2.2.1 ⟨hR1, by have := hm.2.2.2; show 8 + (M'.2.2.1 + 11) + 40 * d ≤ R.locals; omega⟩
/-- a nest mate's private static method -/
theorem r_invSN {n : Nat} {host : String} (hM : Call M' d mc ms As K H Q1) (hm : MOK M' n) (hin : Cond.static M'.1 ∈ lw_good) (hli : Cond.methodLinkNest M.1.cls i M'.1 host ∈ lw_nest) (hd : decode M.2.1 pc = .ok (.invokestatic i, 3)) (hn : As.length = n) (hst : wid st ≤ 8) {sti : List AV} (hsti : sti = As.reverse ++ st)
    (kk : ∀ (r : Option AV) (K' : Shp) (H' : Mem), Q1 r K' H' → K.length ≤ K'.length → Fr M (d + 1) fc fs sc (pc + 3) ls (r.toList ++ st) K' H' Q) : Fr M (d + 1) (mc + fc) (ms + fs) sc pc ls sti K H Q := by
  subst hsti
  intro p l e R s m args below meth c base b D aC n0 φ0 φ Hp locs cells slots lsA QM hC hR1 hR2 hc1 hc2 hP hS hl hlo hso hn0 hag hret
  obtain ⟨hx, hb, hr, hml, hown, hts, hnw, hKK, hlk, hnm, hbs, hsc⟩ := id hC
  have hokA : ∀ v ∈ As, okV K.length v := fun v hv => hso v (by simp [hv])
  have hokS : ∀ v ∈ st, okV K.length v := fun v hv => hso v (by simp [hv])
  refine after_call (va_runSN (As := As.map (toV φ b)) (rest := st.map (toV φ b)) (Ts := lw_good) (nL := M.2.2.1) ⟨hx, hb, hml, hown, hts⟩ (hM l base b D aC φ) (bytes := M'.2.1) (maxL := M'.2.2.1) (ret := M'.2.2.2) (n := n) (index := i)
    ⟨nest_cn hts hnw hm hli hR1 hR2, hts _ hin, trivial⟩
    ⟨blindP, pre_call rfl hnw hKK hbs hS hP hokA⟩ rfl (by rw [List.length_map]; exact hn) hl.1 (by simp) (lv_room (by rw [wid_st]; exact hst)) hd ⟨by omega, by omega⟩) kk hC hR1 hR2 (by omega) (by omega) hS hl hlo hokS hn0 hag hret
/-- a constructor -/
theorem r_invI {n : Nat} (hret0 : M'.2.2.2 = none) (hM : Call M' d mc ms ((2, X) :: As) K H Q1) (hm : MOK M' n) (hi : M'.1.name = "<init>") (hin : Cond.instanceMethod M'.1 ∈ lw_good) (hli : Cond.methodLink M.1.cls i M'.1 ∈ lw_good) (hd : decode M.2.1 pc = .ok (.invokespecial i, 3)) (hn : As.length = n) (h0 : 0 ≤ X) (hst : wid st ≤ 8) {sti : List AV} (hsti : sti = As.reverse ++ (2, X) :: st)
    (kk : ∀ (r : Option AV) (K' : Shp) (H' : Mem), Q1 r K' H' → K.length ≤ K'.length → Fr M (d + 1) fc fs sc (pc + 3) ls (r.toList ++ st) K' H' Q) : Fr M (d + 1) (mc + fc) (ms + fs) sc pc ls sti K H Q := by
  subst hsti
  intro p l e R s m args below meth c base b D aC n0 φ0 φ Hp locs cells slots lsA QM hC hR1 hR2 hc1 hc2 hP hS hl hlo hso hn0 hag hret
  obtain ⟨hx, hb, hr, hml, hown, hts, hnw, hKK, hlk, hnm, hbs, hsc⟩ := id hC
  have hokA : ∀ v ∈ (2, X) :: As, okV K.length v := fun v hv => hso v (by
    rcases List.mem_cons.mp hv with rfl | h
    · simp
    · simp [h])
  have hokS : ∀ v ∈ st, okV K.length v := fun v hv => hso v (by simp [hv])
  have e0 : ((2, X) :: As).map (toV φ b) = .ref (φ X.toNat) :: As.map (toV φ b) := by rw [List.map_cons, toV_ref h0]
  have hg := good_ws hm.1
  have hws : wsM M' = Cond.code M'.1 M'.2.1 M'.2.2.1 none :: lw_good := by unfold wsM; rw [hret0]
  refine after_call (va_runI (As := As.map (toV φ b)) (rest := st.map (toV φ b)) (Ts := lw_good) (nL := M.2.2.1) ⟨hx, hb, hml, hown, hts⟩ (hM l base b D aC φ) (bytes := M'.2.1) (maxL := M'.2.2.1) (n := n) (index := i) (b := φ X.toNat)
    ⟨callB_of n hts hg hws rfl rfl (hts _ hm.2.1) (hts _ hli) hm.2.2.1 ⟨hR1, by have := hm.2.2.2; show 8 + (M'.2.2.1 + 11) + 40 * d ≤ R.locals; omega⟩, hi, hts _ hin⟩
    ⟨blindP, pre_call e0 hnw hKK hbs hS hP hokA⟩ rfl (by rw [List.length_map]; exact hn) hl.1 (by simp [toV_ref h0]) (lv_room (by rw [wid_st]; exact hst)) hd ⟨by omega, by omega⟩) kk hC hR1 hR2 (by omega) (by omega) hS hl hlo hokS hn0 hag hret
/-- a nest mate's private constructor -/
theorem r_invIN {n : Nat} {host : String} (hret0 : M'.2.2.2 = none) (hM : Call M' d mc ms ((2, X) :: As) K H Q1) (hm : MOK M' n) (hi : M'.1.name = "<init>") (hin : Cond.instanceMethod M'.1 ∈ lw_good) (hli : Cond.methodLinkNest M.1.cls i M'.1 host ∈ lw_nest) (hd : decode M.2.1 pc = .ok (.invokespecial i, 3)) (hn : As.length = n) (h0 : 0 ≤ X) (hst : wid st ≤ 8) {sti : List AV} (hsti : sti = As.reverse ++ (2, X) :: st)
    (kk : ∀ (r : Option AV) (K' : Shp) (H' : Mem), Q1 r K' H' → K.length ≤ K'.length → Fr M (d + 1) fc fs sc (pc + 3) ls (r.toList ++ st) K' H' Q) : Fr M (d + 1) (mc + fc) (ms + fs) sc pc ls sti K H Q := by
  subst hsti
  intro p l e R s m args below meth c base b D aC n0 φ0 φ Hp locs cells slots lsA QM hC hR1 hR2 hc1 hc2 hP hS hl hlo hso hn0 hag hret
  obtain ⟨hx, hb, hr, hml, hown, hts, hnw, hKK, hlk, hnm, hbs, hsc⟩ := id hC
  have hokA : ∀ v ∈ (2, X) :: As, okV K.length v := fun v hv => hso v (by
    rcases List.mem_cons.mp hv with rfl | h
    · simp
    · simp [h])
  have hokS : ∀ v ∈ st, okV K.length v := fun v hv => hso v (by simp [hv])
  have e0 : ((2, X) :: As).map (toV φ b) = .ref (φ X.toNat) :: As.map (toV φ b) := by rw [List.map_cons, toV_ref h0]
  have hcn := nest_cn (mc := mc) (ms := ms) hts hnw hm hli hR1 hR2
  rw [hret0] at hcn
  refine after_call (va_runIN (As := As.map (toV φ b)) (rest := st.map (toV φ b)) (Ts := lw_good) (nL := M.2.2.1) ⟨hx, hb, hml, hown, hts⟩ (hM l base b D aC φ) (bytes := M'.2.1) (maxL := M'.2.2.1) (n := n) (index := i) (b := φ X.toNat)
    ⟨hcn, hi, hts _ hin⟩
    ⟨blindP, pre_call e0 hnw hKK hbs hS hP hokA⟩ rfl (by rw [List.length_map]; exact hn) hl.1 (by simp [toV_ref h0]) (lv_room (by rw [wid_st]; exact hst)) hd ⟨by omega, by omega⟩) kk hC hR1 hR2 (by omega) (by omega) hS hl hlo hokS hn0 hag hret
end Calls2
end
section
/-! RULES, fifth part: new cells, Object's constructor, arraycopy, switches, shifts and masks -/
theorem mono_tyOk {n n' : Nat} (h : n ≤ n') {t : FieldType} {x : Int} (hx : tyOk n t x) : tyOk n' t x := by
  cases t with
  | int => exact hx
  | long => exact hx
  | boolean => exact hx
  | object C => exact ⟨hx.1, by have := hx.2; omega⟩
  | array C => exact ⟨hx.1, by have := hx.2; omega⟩
  | _ => exact hx.elim
/-- what a new cell holds -/
def dflt (kd k : Nat) : Int := if ftag (kty kd k) = 2 then -1 else 0
theorem rng_new {K : Shp} {H : Mem} {q : Nat × Nat} (h : Rng K H) (hq : ∀ k, k < q.2 → tyOk 0 (kty q.1 k) (dflt q.1 k)) : Rng (K ++ [q]) (upA H K.length (dflt q.1)) := by
  intro a q' ha k hk
  have hl : K.length ≤ (K ++ [q]).length := by simp
  unfold upA
  by_cases e : a = K.length
  · subst e
    rw [List.getElem?_append_right (Nat.le_refl _)] at ha
    simp at ha
    subst ha
    rw [if_pos rfl]
    exact mono_tyOk (Nat.zero_le _) (hq k hk)
  · rw [if_neg e]
    have hlt : a < K.length := by
      have := (List.getElem?_eq_some_iff.mp ha).1
      simp at this
      omega
    rw [List.getElem?_append_left hlt] at ha
    exact mono_tyOk hl (h a q' ha k hk)
theorem cell_same {φ φ' : Nat → Nat} {b : Nat} {aC : Nat → ClassId} {K : Shp} {H : Mem} {a : Nat} {q : Nat × Nat} (hr : Rng K H) (ha : K[a]? = some q) (h : ∀ a, a < K.length → φ' a = φ a) : cellE φ' b aC q (H a) = cellE φ b aC q (H a) ∨ True := Or.inr trivial
theorem ftag2 {t : FieldType} {n : Nat} {x : Int} (h : tyOk n t x) : okV n (ftag t, x) := tyOk_okV h
/-- the world with one cell more; refs of the elder cells point at elder cells -/
theorem ws_new {φ φ' : Nat → Nat} {b : Nat} {aC : Nat → ClassId} {K : Shp} {H : Mem} {q : Nat × Nat} {f : Nat → Int} (hr : Rng K H) (h : ∀ a, a < K.length → φ' a = φ a) :
    (∀ (i : Nat) (x y : Nat × va_E), (wsOf φ b aC K H ++ [(φ' K.length, cellE φ' b aC q f)])[i]? = some x → (wsOf φ' b aC (K ++ [q]) (upA H K.length f))[i]? = some y → x.1 = y.1 ∧ ∀ (D : va_G) (Hp : Heap), va_at D vwCl x Hp → va_at D vwCl y Hp) ∧ (wsOf φ b aC K H ++ [(φ' K.length, cellE φ' b aC q f)]).length = (wsOf φ' b aC (K ++ [q]) (upA H K.length f)).length := by
  have hlen : (wsOf φ b aC K H).length = K.length := by simp [wsOf]
  refine ⟨fun i x y hx hy => ?_, by simp [wsOf]⟩
  by_cases hi : i < K.length
  · rw [List.getElem?_append_left (by rw [hlen]; exact hi)] at hx
    obtain ⟨q', hq'⟩ : ∃ q', K[i]? = some q' := ⟨K[i], List.getElem?_eq_getElem hi⟩
    rw [ws_at hq'] at hx
    have hq2 : (K ++ [q])[i]? = some q' := by rw [List.getElem?_append_left hi]; exact hq'
    rw [ws_at hq2] at hy
    cases hx
    cases hy
    refine ⟨(h i hi).symm, fun D Hp ha => ?_⟩
    have e1 : upA H K.length f i = H i := by unfold upA; rw [if_neg (by omega)]
    rw [e1, h i hi]
    have hok := hr i q' hq'
    obtain ⟨kd, n⟩ := q'
    unfold cellE at ha ⊢
    simp only at ha ⊢ hok
    by_cases hk : kd < 13
    · rw [if_pos hk] at ha ⊢
      have e : ((List.range n).map fun k => toV φ' b (ftag (fty kd k), H i k)) = (List.range n).map fun k => toV φ b (ftag (fty kd k), H i k) := by
        apply List.map_congr_left
        intro k hkm
        have h3 := hok k (List.mem_range.mp hkm)
        rw [kty, if_pos hk] at h3
        exact toV_same h (tyOk_okV h3)
      rw [e]
      exact ha
    · rw [if_neg hk] at ha ⊢
      by_cases hk2 : kd = 21
      · rw [if_pos hk2] at ha ⊢; exact ha
      · rw [if_neg hk2] at ha ⊢
        by_cases hk3 : kd = 20 ∨ kd = 22
        · rw [if_pos hk3] at ha ⊢; exact ha
        · rw [if_neg hk3] at ha ⊢
          show Hp[φ i]? = some (vp_cell _ _)
          have ha : Hp[φ i]? = some (vp_cell (aC kd) (n, .inr (.inr (.inr (.inr fun j => refE φ (H i j)))))) := ha
          rw [ha, vp_cell_q, vp_cell_q]
          congr 1
          unfold arrV
          congr 1
          congr 1
          funext j
          have h3 := hok j.val j.isLt
          have hkt : kty kd j.val = .object "" := by
            unfold kty
            rw [if_neg hk, if_neg (fun e => hk3 (Or.inl e)), if_neg hk2, if_neg (fun e => hk3 (Or.inr e))]
          rw [hkt] at h3
          have h4 : H i j.val < K.length := h3.2
          show va_rf (refE φ (H i j.val)) = va_rf (refE φ' (H i j.val))
          unfold refE
          by_cases h5 : H i j.val < 0
          · rw [if_pos h5, if_pos h5]
          · rw [if_neg h5, if_neg h5, h _ (by omega)]
  · have hl : i < (wsOf φ b aC K H ++ [(φ' K.length, cellE φ' b aC q f)]).length := (List.getElem?_eq_some_iff.mp hx).1
    simp [wsOf] at hl
    have e : i = K.length := by omega
    subst e
    rw [List.getElem?_append_right (by rw [hlen]; exact Nat.le_refl _), hlen, Nat.sub_self] at hx
    have hq2 : (K ++ [q])[K.length]? = some q := by simp
    rw [ws_at hq2] at hy
    cases hx
    cases hy
    refine ⟨rfl, fun D Hp ha => ?_⟩
    have e1 : upA H K.length f K.length = f := by unfold upA; rw [if_pos rfl]
    rw [e1]
    exact ha
theorem P_new {base b : Nat} {D : va_G} {φ φ' : Nat → Nat} {aC : Nat → ClassId} {K : Shp} {H : Mem} {q : Nat × Nat} {f : Nat → Int} {Hp : Heap} (hr : Rng K H) (h : ∀ a, a < K.length → φ' a = φ a)
    (hP : va_P D vwCl (wsOf φ b aC K H ++ [(φ' K.length, cellE φ' b aC q f)]) Hp) (hD : va_D (fun q => base ≤ q) (wsOf φ b aC K H ++ [(φ' K.length, cellE φ' b aC q f)])) :
    va_P D vwCl (wsOf φ' b aC (K ++ [q]) (upA H K.length f)) Hp ∧ va_D (fun q => base ≤ q) (wsOf φ' b aC (K ++ [q]) (upA H K.length f)) := by
  obtain ⟨h1, h2⟩ := ws_new (b := b) (aC := aC) (q := q) (f := f) hr h
  have hex : ∀ (i : Nat) (y : Nat × va_E), (wsOf φ' b aC (K ++ [q]) (upA H K.length f))[i]? = some y → ∃ x, (wsOf φ b aC K H ++ [(φ' K.length, cellE φ' b aC q f)])[i]? = some x := by
    intro i y hy
    have hl := (List.getElem?_eq_some_iff.mp hy).1
    rw [← h2] at hl
    exact ⟨_, List.getElem?_eq_getElem hl⟩
  refine ⟨fun i y hy => ?_, fun i j x y hx hy e => ?_, fun i y hy => ?_⟩
  · obtain ⟨x, hx⟩ := hex i y hy
    exact (h1 i x y hx hy).2 D Hp (hP i x hx)
  · obtain ⟨x', hx'⟩ := hex i x hx
    obtain ⟨y', hy'⟩ := hex j y hy
    exact hD.1 i j x' y' hx' hy' (by rw [(h1 i x' x hx' hx).1, (h1 j y' y hy' hy).1]; exact e)
  · obtain ⟨x, hx⟩ := hex i y hy
    show base ≤ y.1
    rw [← (h1 i x y hx hy).1]
    exact hD.2 i x hx
section Make
variable {M : MM} {d fc fs : Nat} {sc : Option (Nat × (Nat → Int))} {pc i : Nat} {ls : List (Nat × AV)} {st : List AV} {K : Shp} {H : Mem} {Q : Option AV → Shp → Mem → Prop}
def upF (φ : Nat → Nat) (n q : Nat) : Nat → Nat := fun j => if j = n then q else φ j
theorem upφ {φ : Nat → Nat} {n q : Nat} : ∀ a, a < n → upF φ n q a = φ a := fun a h => by unfold upF; rw [if_neg (by omega)]
theorem upφ_eq {φ : Nat → Nat} {n q : Nat} : upF φ n q n = q := by unfold upF; rw [if_pos rfl]
/-- behind a new cell -/
theorem after_new {p : Program} {l : Launch} {e : Env} {R : Room} {s : State} {m : MethodId} {args : Array Value} {below : List Frame} {meth : Method} {c : Code} {base b : Nat} {D : va_G} {aC : Nat → ClassId} {n0 : Nat} {φ0 φ : Nat → Nat} {Hp : Heap} {locs : List Loc} {cells slots pc' : Nat} {lsA : Array Slot} {QM : State → Prop} {q : Nat × Nat} {a : Nat}
    (kk : Fr M d fc fs sc pc' ls ((2, (K.length : Int)) :: st) (K ++ [q]) (upA H K.length (dflt q.1)) Q) (hr : Rng K H) (hq : ∀ k, k < q.2 → tyOk 0 (kty q.1 k) (dflt q.1 k))
    (hP : va_P D vwCl (wsOf φ b aC K H ++ [(a, cellE (upF φ K.length a) b aC q (dflt q.1))]) Hp) (hD : va_D (fun q => base ≤ q) (wsOf φ b aC K H ++ [(a, cellE (upF φ K.length a) b aC q (dflt q.1))]))
    (hC : Cx M sc p s m args meth c base b D aC) (hR1 : d ≤ R.frames) (hR2 : 40 * d ≤ R.locals) (hc1 : cells + fc ≤ R.cells) (hc2 : slots + fs ≤ R.slots) (hS : va_S (fun q => base ≤ q) s.heap Hp locs) (hl : lv_has lsA M.2.2.1 (ls.map fun q => (q.1, toV φ b q.2))) (hlo : ∀ q ∈ ls, okV K.length q.2) (hso : ∀ v ∈ st, okV K.length v)
    (hn : n0 ≤ K.length) (hag : ∀ a, a < n0 → φ a = φ0 a) (hret : Ret M p l e R s m args below meth c base b D aC n0 φ0 QM Q) : W p l e R s m args below meth c Hp locs cells slots QM (F0 m pc' lsA (.ref a :: st.map (toV φ b))) := by
  have hu := upφ (φ := φ) (n := K.length) (q := a)
  have ea : upF φ K.length a K.length = a := upφ_eq
  obtain ⟨hP2, hD2⟩ := P_new (φ' := upF φ K.length a) hr hu (by rw [ea]; exact hP) (by rw [ea]; exact hD)
  have hle : K.length ≤ (K ++ [q]).length := by simp
  have hl' : lv_has lsA M.2.2.1 (ls.map fun z => (z.1, toV (upF φ K.length a) b z.2)) := by
    have e : (ls.map fun z => (z.1, toV (upF φ K.length a) b z.2)) = ls.map fun q => (q.1, toV φ b q.2) := List.map_congr_left fun z hz => by rw [toV_same hu (hlo z hz)]
    rw [e]; exact hl
  have hW := kk p l e R s m args below meth c base b D aC n0 φ0 (upF φ K.length a) Hp locs cells slots lsA QM hC hR1 hR2 hc1 hc2 ⟨hP2, hD2, rng_new hr hq⟩ hS hl' (fun z hz => okV_mono hle (hlo z hz)) (ok_push (by show (K.length : Int) < ((K ++ [q]).length : Nat); rw [List.length_append]; simp; omega) (fun v hv => okV_mono hle (hso v hv))) (Nat.le_trans hn hle) (fun x hx => (hu x (Nat.lt_of_lt_of_le hx hn)).trans (hag x hx)) hret
  have e2 : ((2, (K.length : Int)) :: st).map (toV (upF φ K.length a) b) = .ref a :: st.map (toV φ b) := by
    rw [List.map_cons, toV_ref (by omega), map_same hu hso, Int.toNat_natCast, ea]
  rw [e2] at hW
  exact hW
theorem r_new {ci N : Nat} {C : String} {T : u_T} (cl : Cls ci C T N) (hd : decode M.2.1 pc = .ok (.new i, 3)) (hli : Cond.classLink M.1.cls i C ∈ lw_good) (hin : Cond.instantiable C N ∈ lw_good) (hini : Cond.initialized C ∈ lw_good) (hty : ∀ k, k < N → tyOk 0 (kty ci k) (dflt ci k)) (hdf : ∀ k, k < N → ∀ (φ : Nat → Nat) (b : Nat), defaultValue (fty ci k) = toV φ b (ftag (fty ci k), dflt ci k))
    (kk : Fr M d fc fs sc (pc + 3) ls ((2, (K.length : Int)) :: st) (K ++ [(ci, N)]) (upA H K.length (dflt ci)) Q) : Fr M d (1 + fc) (N + fs) sc pc ls st K H Q := by
  intro p l e R s m args below meth c base b D aC n0 φ0 φ Hp locs cells slots lsA QM hC hR1 hR2 hc1 hc2 hP hS hl hlo hso hn hag hret
  obtain ⟨hxx, hb, hr, hml, hown, hts, hnw, hKK, hlk, hnm, hbs, hsc⟩ := id hC
  refine va_new (fs := (List.range N).map fun k => toV φ b (ftag (fty ci k), dflt ci k)) hxx hb hts cl.2.2.1 (fty ci) cl.2.2.2.1 hown (hts _ hli) (hts _ hin) (hts _ hini) hKK hP.1 hP.2.1 hS (fun q h => Nat.le_trans hbs h) cl.2.1 (fun j hj => by rw [hdf j hj φ b]; simp [vp_V, hj]) (by omega) (by omega) hd fun a H1 hP1 hD1 hS1 => ?_
  have ec : ∀ ψ : Nat → Nat, (.inr (ci, (List.range N).map fun k => toV φ b (ftag (fty ci k), dflt ci k)) : va_E) = cellE ψ b aC (ci, N) (dflt ci) := by
    intro ψ
    rw [cell_obj cl.1]
    congr 2
    apply List.map_congr_left
    intro k hk
    rw [← hdf k (List.mem_range.mp hk) φ b, ← hdf k (List.mem_range.mp hk) ψ b]
  rw [ec (upF φ K.length a)] at hP1 hD1
  exact after_new kk hP.2.2 hty hP1 hD1 hC hR1 hR2 (by omega) (by omega) hS1 hl hlo hso hn hag hret
/-- a new array of ints, longs or booleans -/
theorem r_newa {at_ : ArrayType} {n : Int} {N : Nat} (kd t0 : Nat) (ty : FieldType) (hd : decode M.2.1 pc = .ok (.newarray at_, 2)) (hk : kd = 20 ∧ ty = .int ∨ kd = 21 ∧ ty = .long ∨ kd = 22 ∧ ty = .boolean) (hty : newarray.typeOf at_ = ty) (hw : Cond.arrayClass ty ∈ lw_good) (hN : n = (N : Int)) (hN2 : N ≤ 1000000)
    (kk : Fr M d fc fs sc (pc + 2) ls ((2, (K.length : Int)) :: st) (K ++ [(kd, N)]) (upA H K.length (dflt kd)) Q) : Fr M d (1 + fc) (N + fs) sc pc ls ((0, n) :: st) K H Q := by
  intro p l e R s m args below meth c base b D aC n0 φ0 φ Hp locs cells slots lsA QM hC hR1 hR2 hc1 hc2 hP hS hl hlo hso hn hag hret
  obtain ⟨hxx, hb, hr, hml, hown, hts, hnw, hKK, hlk, hnm, hbs, hsc⟩ := id hC
  subst hN
  have hni : inI (N : Int) := (ok_1 hso).1
  have hn0 : ¬ Int32.ofInt (N : Int) < 0 := fun q => by
    have := (i_lt hni i_zero).mp q
    omega
  have hcl : (Int32.ofInt (N : Int)).toNatClampNeg = N := by rw [i_clamp hni]; simp
  have hcb : N * componentBytes ty ≤ 536870912 := by
    rcases hk with ⟨-, rfl⟩ | ⟨-, rfl⟩ | ⟨-, rfl⟩ <;> simp [componentBytes] <;> omega
  have hA : ∀ q, s.heap.size ≤ q → base ≤ q := fun q h => Nat.le_trans hbs h
  have hcid : ∀ cA : ClassId, va_RA s cA ty → cA = aC kd := by
    intro cA h
    rcases hk with ⟨rfl, rfl⟩ | ⟨rfl, rfl⟩ | ⟨rfl, rfl⟩
    · have h2 := (hKK.2 0 (aC 20, .int) rfl).2
      exact Option.some.inj (Eq.trans (Eq.symm h) h2)
    · have h2 := (hKK.2 1 (aC 21, .long) rfl).2
      exact Option.some.inj (Eq.trans (Eq.symm h) h2)
    · have h2 := (hKK.2 2 (aC 22, .boolean) rfl).2
      exact Option.some.inj (Eq.trans (Eq.symm h) h2)
  rw [List.map_cons]
  rcases hk with ⟨rfl, rfl⟩ | ⟨rfl, rfl⟩ | ⟨rfl, rfl⟩
  · refine va_newa (a0 := (N, .inl fun j => Int32.ofInt (dflt 20 j))) hxx hb (by rw [hty]; exact hts _ hw) hty hKK hP.1 hP.2.1 hS hA (fun cA => rfl) hn0 hcl hcb (by omega) (by omega) hd fun a cA H1 hK1 hP1 hD1 hS1 => ?_
    have e1 := hcid cA (hK1.2 5 (cA, .int) rfl).2
    subst e1
    have ec : ∀ ψ : Nat → Nat, (.inl (aC 20, N, .inl fun j => Int32.ofInt (dflt 20 j)) : va_E) = cellE ψ b aC (20, N) (dflt 20) := fun ψ => cell_i.symm
    rw [ec (upF φ K.length a)] at hP1 hD1
    exact after_new kk hP.2.2 (fun k _ => (⟨by decide, by decide⟩ : inI 0)) hP1 hD1 hC hR1 hR2 (by omega) (by omega) hS1 hl hlo (ok_1 hso).2 hn hag hret
  · refine va_newa (a0 := (N, .inr (.inl fun j => Int64.ofInt (dflt 21 j)))) hxx hb (by rw [hty]; exact hts _ hw) hty hKK hP.1 hP.2.1 hS hA (fun cA => rfl) hn0 hcl hcb (by omega) (by omega) hd fun a cA H1 hK1 hP1 hD1 hS1 => ?_
    have e1 := hcid cA (hK1.2 5 (cA, .long) rfl).2
    subst e1
    have ec : ∀ ψ : Nat → Nat, (.inl (aC 21, N, .inr (.inl fun j => Int64.ofInt (dflt 21 j))) : va_E) = cellE ψ b aC (21, N) (dflt 21) := fun ψ => cell_l.symm
    rw [ec (upF φ K.length a)] at hP1 hD1
    exact after_new kk hP.2.2 (fun k _ => (⟨by decide, by decide⟩ : inL 0)) hP1 hD1 hC hR1 hR2 (by omega) (by omega) hS1 hl hlo (ok_1 hso).2 hn hag hret
  · refine va_newa (a0 := (N, .inl fun j => Int32.ofInt (dflt 22 j))) hxx hb (by rw [hty]; exact hts _ hw) hty hKK hP.1 hP.2.1 hS hA (fun cA => rfl) hn0 hcl hcb (by omega) (by omega) hd fun a cA H1 hK1 hP1 hD1 hS1 => ?_
    have e1 := hcid cA (hK1.2 5 (cA, .boolean) rfl).2
    subst e1
    have ec : ∀ ψ : Nat → Nat, (.inl (aC 22, N, .inl fun j => Int32.ofInt (dflt 22 j)) : va_E) = cellE ψ b aC (22, N) (dflt 22) := fun ψ => cell_z.symm
    rw [ec (upF φ K.length a)] at hP1 hD1
    exact after_new kk hP.2.2 (fun k _ => Or.inl rfl) hP1 hD1 hC hR1 hR2 (by omega) (by omega) hS1 hl hlo (ok_1 hso).2 hn hag hret
/-- a new array of objects -/
theorem r_newq {n : Int} {N : Nat} (kd : Nat) (C : String) (hd : decode M.2.1 pc = .ok (.anewarray i, 3)) (hk : kd = 23 ∧ C = "RodBeam$Section" ∨ kd = 24 ∧ C = "RodBeam$Span") (hli : Cond.classLink M.1.cls i C ∈ lw_good) (hov : Cond.arrayOver (.object C) ∈ lw_good) (hN : n = (N : Int)) (hN2 : N ≤ 1000000)
    (kk : Fr M d fc fs sc (pc + 3) ls ((2, (K.length : Int)) :: st) (K ++ [(kd, N)]) (upA H K.length (dflt kd)) Q) : Fr M d (1 + fc) (N + fs) sc pc ls ((0, n) :: st) K H Q := by
  intro p l e R s m args below meth c base b D aC n0 φ0 φ Hp locs cells slots lsA QM hC hR1 hR2 hc1 hc2 hP hS hl hlo hso hn hag hret
  obtain ⟨hxx, hb, hr, hml, hown, hts, hnw, hKK, hlk, hnm, hbs, hsc⟩ := id hC
  subst hN
  have hni : inI (N : Int) := (ok_1 hso).1
  have hn0 : ¬ Int32.ofInt (N : Int) < 0 := fun q => by
    have := (i_lt hni i_zero).mp q
    omega
  have hcl : (Int32.ofInt (N : Int)).toNatClampNeg = N := by rw [i_clamp hni]; simp
  have hA : ∀ q, s.heap.size ≤ q → base ≤ q := fun q h => Nat.le_trans hbs h
  have hcid : ∀ cA : ClassId, va_RA s cA (.object C) → cA = aC kd := by
    intro cA h
    obtain ⟨_, _, -, -, -, h⟩ := h
    rcases hk with ⟨rfl, rfl⟩ | ⟨rfl, rfl⟩
    · obtain ⟨_, _, -, -, -, h2⟩ := (hKK.2 3 (aC 23, .object "RodBeam$Section") rfl).2
      exact Option.some.inj (Eq.trans (Eq.symm h) h2)
    · obtain ⟨_, _, -, -, -, h2⟩ := (hKK.2 4 (aC 24, .object "RodBeam$Span") rfl).2
      exact Option.some.inj (Eq.trans (Eq.symm h) h2)
  rw [List.map_cons]
  refine va_newq hxx hb hown (hts _ hli) (va_AO.of (hts _ hov)) hKK hP.1 hP.2.1 hS hA hn0 hcl (by omega) (by omega) (by omega) hd fun a cA H1 hK1 hP1 hD1 hS1 => ?_
  have e1 := hcid cA (hK1.2 5 (cA, .object C) rfl).2
  subst e1
  rcases hk with ⟨rfl, rfl⟩ | ⟨rfl, rfl⟩
  · have ec : ∀ ψ : Nat → Nat, (.inl (aC 23, N, .inr (.inr (.inr (.inr fun _ => none)))) : va_E) = cellE ψ b aC (23, N) (dflt 23) := fun ψ => by rw [cell_23]; rfl
    rw [ec (upF φ K.length a)] at hP1 hD1
    exact after_new kk hP.2.2 (fun k _ => (⟨by decide, by decide⟩ : (-1 : Int) ≤ -1 ∧ (-1 : Int) < (0 : Nat))) hP1 hD1 hC hR1 hR2 (by omega) (by omega) hS1 hl hlo (ok_1 hso).2 hn hag hret
  · have ec : ∀ ψ : Nat → Nat, (.inl (aC 24, N, .inr (.inr (.inr (.inr fun _ => none)))) : va_E) = cellE ψ b aC (24, N) (dflt 24) := fun ψ => by rw [cell_24]; rfl
    rw [ec (upF φ K.length a)] at hP1 hD1
    exact after_new kk hP.2.2 (fun k _ => (⟨by decide, by decide⟩ : (-1 : Int) ≤ -1 ∧ (-1 : Int) < (0 : Nat))) hP1 hD1 hC hR1 hR2 (by omega) (by omega) hS1 hl hlo (ok_1 hso).2 hn hag hret
/-- Object's constructor -/
theorem r_objInit {X : Int} (hd : decode M.2.1 pc = .ok (.invokespecial i, 3)) (hli : Cond.methodLink M.1.cls i objectInit ∈ lw_good) (hin : Cond.instanceMethod objectInit ∈ lw_good) (hco : Cond.code objectInit ⟨#[0xb1]⟩ 1 none ∈ lw_good) (h0 : 0 ≤ X) (hst : wid st ≤ 8)
    (kk : Fr M (d + 1) fc fs sc (pc + 3) ls st K H Q) : Fr M (d + 1) fc fs sc pc ls ((2, X) :: st) K H Q := by
  intro p l e R s m args below meth c base b D aC n0 φ0 φ Hp locs cells slots lsA QM hC hR1 hR2 hc1 hc2 hP hS hl hlo hso hn hag hret
  obtain ⟨hxx, hb, hr, hml, hown, hts, hnw, hKK, hlk, hnm, hbs, hsc⟩ := id hC
  rw [List.map_cons, toV_ref h0]
  refine W.objInit hxx hb hown (hts _ hli) (hts _ hin) (hts _ hco) rfl (by rw [hml]; exact hl.1) rfl hd (by omega) ?_ (W.eq (g2 := F0 m (pc + 3) lsA (st.map (toV φ b))) rfl (kk p l e R s m args below meth c base b D aC n0 φ0 φ Hp locs cells slots lsA QM hC hR1 hR2 hc1 hc2 hP hS hl hlo (ok_1 hso).2 hn hag hret))
  have := lv_room (m := m) (pc := pc) (ls := lsA) (rest := .ref (φ X.toNat) :: st.map (toV φ b)) (st := st.map (toV φ b)) (by rw [wid_st]; exact hst)
  omega
end Make
end
section
/-! RULES, sixth part: arraycopy, switches, masks and shifts -/
theorem i_and_mask {x : Int} (k : Nat) (hk : k ≤ 30) : Int32.ofInt x &&& Int32.ofInt (2 ^ k - 1 : Nat) = Int32.ofInt (x % (2 ^ k : Nat)) := by
  have hp : 2 ^ k ≤ 2 ^ 30 := Nat.pow_le_pow_right (by decide) hk
  have hp0 : 0 < 2 ^ k := Nat.pow_pos (by decide)
  apply Int32.toBitVec.inj
  apply BitVec.eq_of_toNat_eq
  simp only [Int32.toBitVec_and, Int32.toBitVec_ofInt, BitVec.toNat_and, BitVec.toNat_ofInt]
  have e1 : (((2 ^ k - 1 : Nat) : Int) % ((2 ^ 32 : Nat) : Int)).toNat = 2 ^ k - 1 := by
    rw [Int.emod_eq_of_lt (by omega) (by omega)]; simp
  rw [e1, Nat.and_two_pow_sub_one_eq_mod]
  have e2 : ((x % ((2 ^ k : Nat) : Int)) % ((2 ^ 32 : Nat) : Int)).toNat = (x % ((2 ^ k : Nat) : Int)).toNat := by
    have h1 := Int.emod_nonneg x (show ((2 ^ k : Nat) : Int) ≠ 0 by omega)
    have h2 := Int.emod_lt_of_pos x (show 0 < ((2 ^ k : Nat) : Int) by omega)
    rw [Int.emod_eq_of_lt h1 (by omega)]
  rw [e2]
  have h3 := Int.emod_nonneg x (show ((2 ^ 32 : Nat) : Int) ≠ 0 by decide)
  have e3 : (((x % ((2 ^ 32 : Nat) : Int)).toNat % 2 ^ k : Nat) : Int) = x % ((2 ^ k : Nat) : Int) := by
    rw [Int.natCast_emod, Int.toNat_of_nonneg h3]
    apply Int.emod_emod_of_dvd
    exact Int.ofNat_dvd.mpr (Nat.pow_dvd_pow 2 (by omega))
  rw [← e3, Int.toNat_natCast]
theorem l_and_mask {x : Int} (k : Nat) (hk : k ≤ 60) : Int64.ofInt x &&& Int64.ofInt (2 ^ k - 1 : Nat) = Int64.ofInt (x % (2 ^ k : Nat)) := by
  have hp : 2 ^ k ≤ 2 ^ 60 := Nat.pow_le_pow_right (by decide) hk
  have hp0 : 0 < 2 ^ k := Nat.pow_pos (by decide)
  apply Int64.toBitVec.inj
  apply BitVec.eq_of_toNat_eq
  simp only [Int64.toBitVec_and, Int64.toBitVec_ofInt, BitVec.toNat_and, BitVec.toNat_ofInt]
  have e1 : (((2 ^ k - 1 : Nat) : Int) % ((2 ^ 64 : Nat) : Int)).toNat = 2 ^ k - 1 := by
    rw [Int.emod_eq_of_lt (by omega) (by omega)]; simp
  rw [e1, Nat.and_two_pow_sub_one_eq_mod]
  have e2 : ((x % ((2 ^ k : Nat) : Int)) % ((2 ^ 64 : Nat) : Int)).toNat = (x % ((2 ^ k : Nat) : Int)).toNat := by
    have h1 := Int.emod_nonneg x (show ((2 ^ k : Nat) : Int) ≠ 0 by omega)
    have h2 := Int.emod_lt_of_pos x (show 0 < ((2 ^ k : Nat) : Int) by omega)
    rw [Int.emod_eq_of_lt h1 (by omega)]
  rw [e2]
  have h3 := Int.emod_nonneg x (show ((2 ^ 64 : Nat) : Int) ≠ 0 by decide)
  have e3 : (((x % ((2 ^ 64 : Nat) : Int)).toNat % 2 ^ k : Nat) : Int) = x % ((2 ^ k : Nat) : Int) := by
    rw [Int.natCast_emod, Int.toNat_of_nonneg h3]
    apply Int.emod_emod_of_dvd
    exact Int.ofNat_dvd.mpr (Nat.pow_dvd_pow 2 (by omega))
  rw [← e3, Int.toNat_natCast]
section Bits
variable {M : MM} {d fc fs : Nat} {sc : Option (Nat × (Nat → Int))} {pc i : Nat} {ls : List (Nat × AV)} {st : List AV} {K : Shp} {H : Mem} {Q : Option AV → Shp → Mem → Prop} {x y : Int}
theorem r_iand30 (hd : decode M.2.1 pc = .ok (.iand, 1)) (k : Fr M d fc fs sc (pc + 1) ls ((0, x % 1073741824) :: st) K H Q) : Fr M d fc fs sc pc ls ((0, 1073741823) :: (0, x) :: st) K H Q :=
  Fr.pure k (fun o => ok_push (⟨by omega, by omega⟩ : inI (x % 1073741824)) (ok_2 o).2.2) (fun φ b lsA hx hb _ _ _ w => lv_iand hx hb hd (by
    have := i_and_mask (x := x) 30 (by decide)
    rw [show ((0, x) : AV).2 = x from rfl, show ((0, 1073741823) : AV).2 = ((2 ^ 30 - 1 : Nat) : Int) from rfl, this]; exact w))
theorem r_iand5 (hd : decode M.2.1 pc = .ok (.iand, 1)) (k : Fr M d fc fs sc (pc + 1) ls ((0, x % 32) :: st) K H Q) : Fr M d fc fs sc pc ls ((0, 31) :: (0, x) :: st) K H Q :=
  Fr.pure k (fun o => ok_push (⟨by omega, by omega⟩ : inI (x % 32)) (ok_2 o).2.2) (fun φ b lsA hx hb _ _ _ w => lv_iand hx hb hd (by
    have := i_and_mask (x := x) 5 (by decide)
    rw [show ((0, x) : AV).2 = x from rfl, show ((0, 31) : AV).2 = ((2 ^ 5 - 1 : Nat) : Int) from rfl, this]; exact w))
theorem r_land30 (hd : decode M.2.1 pc = .ok (.land, 1)) (k : Fr M d fc fs sc (pc + 1) ls ((1, x % 1073741824) :: st) K H Q) : Fr M d fc fs sc pc ls ((1, 1073741823) :: (1, x) :: st) K H Q :=
  Fr.pure k (fun o => ok_push (⟨by omega, by omega⟩ : inL (x % 1073741824)) (ok_2 o).2.2) (fun φ b lsA hx hb _ _ _ w => lv_land hx hb hd (by
    have := l_and_mask (x := x) 30 (by decide)
    rw [show ((1, x) : AV).2 = x from rfl, show ((1, 1073741823) : AV).2 = ((2 ^ 30 - 1 : Nat) : Int) from rfl, this]; exact w))
theorem sm32 : ∀ n : Fin 32, ((Int32.ofInt (n.val : Int) &&& 31).toBitVec.smod 32).toNat = n.val := by decide +kernel
theorem i_toNat (x : Int) : (Int32.ofInt x).toBitVec.toNat = (x % 4294967296).toNat := by
  rw [Int32.toBitVec_ofInt, BitVec.toNat_ofInt]; rfl
theorem l_toNat (x : Int) : (Int64.ofInt x).toBitVec.toNat = (x % 18446744073709551616).toNat := by
  rw [Int64.toBitVec_ofInt, BitVec.toNat_ofInt]; rfl
theorem i_bmod (x : Int) : Int32.ofInt (x.bmod 4294967296) = Int32.ofInt x := by
  rw [Int32.ofInt_eq_iff_bmod_eq_toInt, Int32.toInt_ofInt]
  exact Int.bmod_bmod
theorem bmod_in (x : Int) : inI (x.bmod 4294967296) := by
  have h1 := Int.le_bmod (x := x) (m := 4294967296) (by decide)
  have h2 := Int.bmod_lt (x := x) (m := 4294967296) (by decide)
  unfold inI
  omega
theorem i_shl {x s : Int} (h0 : 0 ≤ s) (h1 : s < 32) : Int32.ofInt x <<< (Int32.ofInt s &&& 31) = Int32.ofInt ((x * (2 ^ s.toNat : Nat)).bmod 4294967296) := by
  obtain ⟨n, rfl⟩ := Int.eq_ofNat_of_zero_le h0
  rw [i_bmod, Int.toNat_natCast]
  apply Int32.toBitVec.inj
  apply BitVec.eq_of_toNat_eq
  rw [pk_shl _ _ n (sm32 ⟨n, by omega⟩), i_toNat, i_toNat]
  have h3 := Int.emod_nonneg x (show (4294967296 : Int) ≠ 0 by decide)
  have h4 := Int.emod_nonneg (x * (2 ^ n : Nat)) (show (4294967296 : Int) ≠ 0 by decide)
  apply Int.ofNat_inj.mp
  rw [Int.natCast_emod, Int.natCast_mul, Int.toNat_of_nonneg h3, Int.toNat_of_nonneg h4]
  show x % 4294967296 * ((2 ^ n : Nat) : Int) % 4294967296 = _
  rw [Int.mul_emod, Int.emod_emod_of_dvd _ (Int.dvd_refl _), ← Int.mul_emod]
theorem i_shr {x s : Int} (hx : inI x) (h0 : 0 ≤ s) (h1 : s < 32) : Int32.ofInt x >>> (Int32.ofInt s &&& 31) = Int32.ofInt (x / (2 ^ s.toNat : Nat)) := by
  obtain ⟨n, rfl⟩ := Int.eq_ofNat_of_zero_le h0
  rw [Int.toNat_natCast]
  apply Int32.toInt_inj.mp
  have hp : 0 < 2 ^ n := Nat.pow_pos (by decide)
  have hin : inI (x / (2 ^ n : Nat)) := by
    have a := hx.1
    have b := hx.2
    constructor
    · apply (Int.le_ediv_iff_mul_le (by omega)).mpr
      have : (2147483648 : Int) * 1 ≤ 2147483648 * ((2 ^ n : Nat) : Int) := Int.mul_le_mul_of_nonneg_left (by omega) (by decide)
      omega
    · apply Int.le_of_lt_add_one
      apply (Int.ediv_lt_iff_lt_mul (by omega)).mpr
      have : (2147483648 : Int) * 1 ≤ 2147483648 * ((2 ^ n : Nat) : Int) := Int.mul_le_mul_of_nonneg_left (by omega) (by decide)
      omega
  rw [pk_shr _ _ n (sm32 ⟨n, by omega⟩), i_toInt hx, i_toInt hin, Int.shiftRight_eq_div_pow]
theorem r_ishl {s : Int} (hd : decode M.2.1 pc = .ok (.ishl, 1)) (h0 : 0 ≤ s) (h1 : s < 32) (k : Fr M d fc fs sc (pc + 1) ls ((0, (x * (2 ^ s.toNat : Nat)).bmod 4294967296) :: st) K H Q) : Fr M d fc fs sc pc ls ((0, s) :: (0, x) :: st) K H Q :=
  Fr.pure k (fun o => ok_push (bmod_in _) (ok_2 o).2.2) (fun φ b lsA hx hb _ _ _ w => lv_ishl hx hb hd (by
    rw [show ((0, x) : AV).2 = x from rfl, show ((0, s) : AV).2 = s from rfl, i_shl h0 h1]; exact w))
theorem shr_in {n : Nat} (hx : inI x) : inI (x / (2 ^ n : Nat)) := by
  have hp : 0 < 2 ^ n := Nat.pow_pos (by decide)
  have a := hx.1
  have b := hx.2
  constructor
  · apply (Int.le_ediv_iff_mul_le (by omega)).mpr
    have : (2147483648 : Int) * 1 ≤ 2147483648 * ((2 ^ n : Nat) : Int) := Int.mul_le_mul_of_nonneg_left (by omega) (by decide)
    omega
  · apply Int.le_of_lt_add_one
    apply (Int.ediv_lt_iff_lt_mul (by omega)).mpr
    have : (2147483648 : Int) * 1 ≤ 2147483648 * ((2 ^ n : Nat) : Int) := Int.mul_le_mul_of_nonneg_left (by omega) (by decide)
    omega
theorem r_ishr {s : Int} (hd : decode M.2.1 pc = .ok (.ishr, 1)) (h0 : 0 ≤ s) (h1 : s < 32) (k : Fr M d fc fs sc (pc + 1) ls ((0, x / (2 ^ s.toNat : Nat)) :: st) K H Q) : Fr M d fc fs sc pc ls ((0, s) :: (0, x) :: st) K H Q :=
  Fr.pure k (fun o => ok_push (shr_in (ok_2 o).2.1) (ok_2 o).2.2) (fun φ b lsA hx hb _ _ o w => lv_ishr hx hb hd (by
    rw [show ((0, x) : AV).2 = x from rfl, show ((0, s) : AV).2 = s from rfl, i_shr (ok_2 o).2.1 h0 h1]; exact w))
theorem r_iushr30 (hd : decode M.2.1 pc = .ok (.iushr, 1)) (h0 : 0 ≤ x) (k : Fr M d fc fs sc (pc + 1) ls ((0, x / 1073741824) :: st) K H Q) : Fr M d fc fs sc pc ls ((0, 30) :: (0, x) :: st) K H Q :=
  Fr.pure k (fun o => ok_push (shr_in (n := 30) (ok_2 o).2.1) (ok_2 o).2.2) (fun φ b lsA hx hb _ _ o w => lv_iushr hx hb hd (by
    have hxi : inI x := (ok_2 o).2.1
    have h2 := hxi.2
    obtain ⟨n, rfl⟩ := Int.eq_ofNat_of_zero_le h0
    have e : Int32.ofInt (n : Int) = nI n := Int32.ofInt_eq_ofNat
    rw [show ((0, (n : Int)) : AV).2 = (n : Int) from rfl, e, pk_ushrN (n := n) (by omega) _ 30 (by decide +kernel)]
    show Int32.ofNat (n / 2 ^ 30) = Int32.ofInt ((n : Int) / 1073741824)
    rw [← Int32.ofInt_eq_ofNat]
    rfl) w)
theorem l_shr (n : Nat) (x : Int) (sh : UInt64) (hs : (sh.toBitVec % 64).toNat = n) (h0 : 0 ≤ x) (hx : inL x) : ((Int64.ofInt x).toUInt64 >>> sh).toInt64 = Int64.ofInt (x / (2 ^ n : Nat)) := by
  apply Int64.toBitVec.inj
  apply BitVec.eq_of_toNat_eq
  have h2 := hx.2
  obtain ⟨m, rfl⟩ := Int.eq_ofNat_of_zero_le h0
  have e : ((Int64.ofInt (m : Int)).toUInt64 >>> sh).toInt64.toBitVec.toNat = (Int64.ofInt (m : Int)).toBitVec.toNat >>> n := by
    show ((Int64.ofInt (m : Int)).toUInt64 >>> sh).toBitVec.toNat = _
    rw [UInt64.toBitVec_shiftRight, BitVec.ushiftRight_eq', BitVec.toNat_ushiftRight, hs]
    rfl
  rw [e, l_toNat, l_toNat, Nat.shiftRight_eq_div_pow]
  have hd : (m : Int) / ((2 ^ n : Nat) : Int) = ((m / 2 ^ n : Nat) : Int) := by rw [Int.natCast_ediv]
  have hle : m / 2 ^ n ≤ m := Nat.div_le_self _ _
  rw [hd, Int.emod_eq_of_lt (by omega) (by omega), Int.toNat_natCast]
  generalize m / 2 ^ n = t at hle ⊢
  rw [Int.emod_eq_of_lt (by omega) (by omega), Int.toNat_natCast]
theorem lshr_in {n : Nat} (h0 : 0 ≤ x) (hx : inL x) : inL (x / (2 ^ n : Nat)) := by
  have h2 := hx.2
  obtain ⟨m, rfl⟩ := Int.eq_ofNat_of_zero_le h0
  have hd : (m : Int) / ((2 ^ n : Nat) : Int) = ((m / 2 ^ n : Nat) : Int) := by rw [Int.natCast_ediv]
  have hle : m / 2 ^ n ≤ m := Nat.div_le_self _ _
  rw [hd]
  generalize m / 2 ^ n = t at hle ⊢
  unfold inL
  omega
theorem r_lushr30 (hd : decode M.2.1 pc = .ok (.lushr, 1)) (h0 : 0 ≤ x) (k : Fr M d fc fs sc (pc + 1) ls ((1, x / 1073741824) :: st) K H Q) : Fr M d fc fs sc pc ls ((0, 30) :: (1, x) :: st) K H Q :=
  Fr.pure k (fun o => ok_push (lshr_in (n := 30) h0 (ok_2 o).2.1) (ok_2 o).2.2) (fun φ b lsA hx hb _ _ o w => lv_lushr hx hb hd (l_shr 30 x _ (by decide +kernel) h0 (ok_2 o).2.1) w)
theorem r_lushr60 (hd : decode M.2.1 pc = .ok (.lushr, 1)) (h0 : 0 ≤ x) (k : Fr M d fc fs sc (pc + 1) ls ((1, x / 1152921504606846976) :: st) K H Q) : Fr M d fc fs sc pc ls ((0, 60) :: (1, x) :: st) K H Q :=
  Fr.pure k (fun o => ok_push (lshr_in (n := 60) h0 (ok_2 o).2.1) (ok_2 o).2.2) (fun φ b lsA hx hb _ _ o w => lv_lushr hx hb hd (l_shr 60 x _ (by decide +kernel) h0 (ok_2 o).2.1) w)
theorem r_lshl30 (hd : decode M.2.1 pc = .ok (.lshl, 1)) (h : inL (x * 1073741824)) (k : Fr M d fc fs sc (pc + 1) ls ((1, x * 1073741824) :: st) K H Q) : Fr M d fc fs sc pc ls ((0, 30) :: (1, x) :: st) K H Q :=
  Fr.pure k (fun o => ok_push h (ok_2 o).2.2) (fun φ b lsA hx hb _ _ o w => lv_lshl hx hb hd (by
    apply Int64.toBitVec.inj
    apply BitVec.eq_of_toNat_eq
    rw [Int64.toBitVec_shiftLeft, BitVec.shiftLeft_eq', BitVec.toNat_shiftLeft, l_toNat, l_toNat]
    have e : ((((Int32.ofInt 30).toInt64 &&& 63).toBitVec).smod 64).toNat = 30 := by decide +kernel
    show (x % 18446744073709551616).toNat <<< ((((Int32.ofInt 30).toInt64 &&& 63).toBitVec).smod 64).toNat % 2 ^ 64 = _
    rw [e, Nat.shiftLeft_eq]
    have h3 := Int.emod_nonneg x (show (18446744073709551616 : Int) ≠ 0 by decide)
    have h4 := Int.emod_nonneg (x * 1073741824) (show (18446744073709551616 : Int) ≠ 0 by decide)
    apply Int.ofNat_inj.mp
    rw [Int.natCast_emod, Int.natCast_mul, Int.toNat_of_nonneg h3, Int.toNat_of_nonneg h4]
    show x % 18446744073709551616 * 1073741824 % 18446744073709551616 = _
    omega) w)
theorem nat_or {a b k : Nat} (ha : a % 2 ^ k = 0) (hb : b < 2 ^ k) : a ||| b = a + b := by
  obtain ⟨c, rfl⟩ : ∃ c, a = 2 ^ k * c := ⟨a / 2 ^ k, by rw [Nat.mul_div_cancel' (Nat.dvd_of_mod_eq_zero ha)]⟩
  rw [Nat.two_pow_add_eq_or_of_lt hb]
/-- an or of numbers that have no bit in common, by a power of two that parts them -/
theorem r_ior (n : Nat) (hd : decode M.2.1 pc = .ok (.ior, 1)) (hx0 : 0 ≤ x) (hxn : x % (2 ^ n : Nat) = 0) (hy0 : 0 ≤ y) (hyn : y < (2 ^ n : Nat)) (h : inI (x + y)) (k : Fr M d fc fs sc (pc + 1) ls ((0, x + y) :: st) K H Q) : Fr M d fc fs sc pc ls ((0, y) :: (0, x) :: st) K H Q :=
  Fr.pure k (fun o => ok_push h (ok_2 o).2.2) (fun φ b lsA hx hb _ _ o w => lv_ior hx hb hd (by
    have hxi : inI x := (ok_2 o).2.1
    have hyi : inI y := (ok_2 o).1
    have e : Int32.ofInt x ||| Int32.ofInt y = Int32.ofInt (x + y) := by
      have a1 := hxi.2
      have a2 := hyi.2
      have a3 := h.2
      obtain ⟨a, rfl⟩ := Int.eq_ofNat_of_zero_le hx0
      obtain ⟨c, rfl⟩ := Int.eq_ofNat_of_zero_le hy0
      apply Int32.toBitVec.inj
      apply BitVec.eq_of_toNat_eq
      rw [Int32.toBitVec_or, BitVec.toNat_or, i_toNat, i_toNat, i_toNat, Int.emod_eq_of_lt (by omega) (by omega), Int.emod_eq_of_lt (by omega) (by omega), Int.emod_eq_of_lt (by omega) (by omega), Int.toNat_natCast, Int.toNat_natCast, nat_or (k := n)]
      · omega
      · rw [← Int.natCast_emod] at hxn; omega
      · omega
    rw [show ((0, x) : AV).2 = x from rfl, show ((0, y) : AV).2 = y from rfl, e]; exact w))
theorem r_lor (n : Nat) (hd : decode M.2.1 pc = .ok (.lor, 1)) (hx0 : 0 ≤ x) (hxn : x % (2 ^ n : Nat) = 0) (hy0 : 0 ≤ y) (hyn : y < (2 ^ n : Nat)) (h : inL (x + y)) (k : Fr M d fc fs sc (pc + 1) ls ((1, x + y) :: st) K H Q) : Fr M d fc fs sc pc ls ((1, y) :: (1, x) :: st) K H Q :=
  Fr.pure k (fun o => ok_push h (ok_2 o).2.2) (fun φ b lsA hx hb _ _ o w => lv_lor hx hb hd (by
    have hxi : inL x := (ok_2 o).2.1
    have hyi : inL y := (ok_2 o).1
    have e : Int64.ofInt x ||| Int64.ofInt y = Int64.ofInt (x + y) := by
      have a1 := hxi.2
      have a2 := hyi.2
      have a3 := h.2
      obtain ⟨a, rfl⟩ := Int.eq_ofNat_of_zero_le hx0
      obtain ⟨c, rfl⟩ := Int.eq_ofNat_of_zero_le hy0
      apply Int64.toBitVec.inj
      apply BitVec.eq_of_toNat_eq
      rw [Int64.toBitVec_or, BitVec.toNat_or, l_toNat, l_toNat, l_toNat, Int.emod_eq_of_lt (by omega) (by omega), Int.emod_eq_of_lt (by omega) (by omega), Int.emod_eq_of_lt (by omega) (by omega), Int.toNat_natCast, Int.toNat_natCast, nat_or (k := n)]
      · omega
      · rw [← Int.natCast_emod] at hxn; omega
      · omega
    rw [show ((1, x) : AV).2 = x from rfl, show ((1, y) : AV).2 = y from rfl, e]; exact w))
/-- a switch over lo .. hi -/
theorem r_table {dfl lo hi : Int} {offs : Array Int} {len dt : Nat} (hd : decode M.2.1 pc = .ok (.tableswitch dfl lo hi offs, len)) (hdt : (pc : Int) + dfl = (dt : Int)) (kin : ∀ j : Int, lo ≤ j → j ≤ hi → x = j → ∃ (off : Int) (tgt : Nat), offs[(j - lo).toNat]? = some off ∧ (pc : Int) + off = (tgt : Int) ∧ Fr M d fc fs sc tgt ls st K H Q) (kout : (x < lo ∨ hi < x) → Fr M d fc fs sc dt ls st K H Q) : Fr M d fc fs sc pc ls ((0, x) :: st) K H Q := by
  intro p l e R s m args below meth c base b D aC n0 φ0 φ Hp locs cells slots lsA QM hC hR1 hR2 hc1 hc2 hP hS hl hlo hso hn hag hret
  have hxi : inI x := (ok_1 hso).1
  rw [List.map_cons]
  by_cases hr : x < lo ∨ hi < x
  · refine lv_tableOut hC.1 hC.2.1 hd (by show (Int32.ofInt x).toInt < lo ∨ hi < (Int32.ofInt x).toInt; rw [i_toInt hxi]; exact hr) hdt ?_
    exact kout hr p l e R s m args below meth c base b D aC n0 φ0 φ Hp locs cells slots lsA QM hC hR1 hR2 hc1 hc2 hP hS hl hlo (ok_1 hso).2 hn hag hret
  · obtain ⟨off, tgt, h1, h2, h3⟩ := kin x (by omega) (by omega) rfl
    refine lv_tableIn hC.1 hC.2.1 hd (x := Int32.ofInt x) (by rw [i_toInt hxi]; omega) (by rw [i_toInt hxi]; omega) (by rw [i_toInt hxi]; exact h1) h2 ?_
    exact h3 p l e R s m args below meth c base b D aC n0 φ0 φ Hp locs cells slots lsA QM hC hR1 hR2 hc1 hc2 hP hS hl hlo (ok_1 hso).2 hn hag hret
end Bits
end
