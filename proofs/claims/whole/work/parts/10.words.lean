/-! methods as tuples, and the words that their instructions need: written by a program out of the claim's own tables -/
theorem memg {w : Cond} (i : Nat) (h1 : lw_tbl[i]? = some w) (h2 : goodWord w = true) : w ∈ lw_good := List.mem_filter.mpr ⟨List.mem_of_getElem? h1, h2⟩
theorem memn {w : Cond} (i : Nat) (h1 : lw_tbl[i]? = some w) (h2 : isNest w = true) : w ∈ lw_nest := List.mem_filter.mpr ⟨List.mem_of_getElem? h1, h2⟩
abbrev mX0_init : MM := (yX0_init, cX0_init, 2, none)
set_option maxRecDepth 100000 in
theorem ok_X0_init : MOK mX0_init 0 := ⟨memg 197 rfl rfl, memg 78 rfl rfl, ⟨by decide, by decide, by decide +kernel⟩, by decide⟩
set_option maxRecDepth 100000 in
theorem im_X0_init : Cond.instanceMethod mX0_init.1 ∈ lw_good := memg 196 rfl rfl
abbrev mX0_addSpan : MM := (yX0_addSpan, cX0_addSpan, 3, some .int)
set_option maxRecDepth 100000 in
theorem ok_X0_addSpan : MOK mX0_addSpan 2 := ⟨memg 782 rfl rfl, memg 78 rfl rfl, ⟨by decide, by decide, by decide +kernel⟩, by decide⟩
set_option maxRecDepth 100000 in
theorem im_X0_addSpan : Cond.instanceMethod mX0_addSpan.1 ∈ lw_good := memg 780 rfl rfl
set_option maxRecDepth 100000 in
theorem se_X0_addSpan : Cond.selects mX0_addSpan.1.cls mX0_addSpan.1 mX0_addSpan.1 ∈ lw_good := memg 781 rfl rfl
abbrev mX0_reckonLeast : MM := (yX0_reckonLeast, cX0_reckonLeast, 5, some .boolean)
set_option maxRecDepth 100000 in
theorem ok_X0_reckonLeast : MOK mX0_reckonLeast 1 := ⟨memg 900 rfl rfl, memg 78 rfl rfl, ⟨by decide, by decide, by decide +kernel⟩, by decide⟩
set_option maxRecDepth 100000 in
theorem im_X0_reckonLeast : Cond.instanceMethod mX0_reckonLeast.1 ∈ lw_good := memg 898 rfl rfl
set_option maxRecDepth 100000 in
theorem se_X0_reckonLeast : Cond.selects mX0_reckonLeast.1.cls mX0_reckonLeast.1 mX0_reckonLeast.1 ∈ lw_good := memg 899 rfl rfl
abbrev mX0_reckon : MM := (yX0_reckon, cX0_reckon, 6, none)
set_option maxRecDepth 100000 in
theorem ok_X0_reckon : MOK mX0_reckon 3 := ⟨memg 814 rfl rfl, memg 78 rfl rfl, ⟨by decide, by decide, by decide +kernel⟩, by decide⟩
set_option maxRecDepth 100000 in
theorem im_X0_reckon : Cond.instanceMethod mX0_reckon.1 ∈ lw_good := memg 812 rfl rfl
set_option maxRecDepth 100000 in
theorem se_X0_reckon : Cond.selects mX0_reckon.1.cls mX0_reckon.1 mX0_reckon.1 ∈ lw_good := memg 813 rfl rfl
abbrev mX0_putSag : MM := (yX0_putSag, cX0_putSag, 3, none)
set_option maxRecDepth 100000 in
theorem ok_X0_putSag : MOK mX0_putSag 2 := ⟨memg 818 rfl rfl, memg 78 rfl rfl, ⟨by decide, by decide, by decide +kernel⟩, by decide⟩
set_option maxRecDepth 100000 in
theorem im_X0_putSag : Cond.instanceMethod mX0_putSag.1 ∈ lw_good := memg 817 rfl rfl
set_option maxRecDepth 100000 in
theorem se_X0_putSag : Cond.selects mX0_putSag.1.cls mX0_putSag.1 mX0_putSag.1 ∈ lw_good := memg 24 rfl rfl
abbrev mX0_putHog : MM := (yX0_putHog, cX0_putHog, 3, none)
set_option maxRecDepth 100000 in
theorem ok_X0_putHog : MOK mX0_putHog 2 := ⟨memg 832 rfl rfl, memg 78 rfl rfl, ⟨by decide, by decide, by decide +kernel⟩, by decide⟩
set_option maxRecDepth 100000 in
theorem im_X0_putHog : Cond.instanceMethod mX0_putHog.1 ∈ lw_good := memg 831 rfl rfl
set_option maxRecDepth 100000 in
theorem se_X0_putHog : Cond.selects mX0_putHog.1.cls mX0_putHog.1 mX0_putHog.1 ∈ lw_good := memg 26 rfl rfl
abbrev mX0_putSupport : MM := (yX0_putSupport, cX0_putSupport, 6, none)
set_option maxRecDepth 100000 in
theorem ok_X0_putSupport : MOK mX0_putSupport 3 := ⟨memg 828 rfl rfl, memg 78 rfl rfl, ⟨by decide, by decide, by decide +kernel⟩, by decide⟩
set_option maxRecDepth 100000 in
theorem im_X0_putSupport : Cond.instanceMethod mX0_putSupport.1 ∈ lw_good := memg 827 rfl rfl
set_option maxRecDepth 100000 in
theorem se_X0_putSupport : Cond.selects mX0_putSupport.1.cls mX0_putSupport.1 mX0_putSupport.1 ∈ lw_good := memg 25 rfl rfl
abbrev mX1_init : MM := (yX1_init, cX1_init, 1, none)
set_option maxRecDepth 100000 in
theorem ok_X1_init : MOK mX1_init 0 := ⟨memg 332 rfl rfl, memg 82 rfl rfl, ⟨by decide, by decide, by decide +kernel⟩, by decide⟩
set_option maxRecDepth 100000 in
theorem im_X1_init : Cond.instanceMethod mX1_init.1 ∈ lw_good := memg 331 rfl rfl
abbrev mX1_findBest : MM := (yX1_findBest, cX1_findBest, 4, some .boolean)
set_option maxRecDepth 100000 in
theorem ok_X1_findBest : MOK mX1_findBest 3 := ⟨memg 705 rfl rfl, memg 82 rfl rfl, ⟨by decide, by decide, by decide +kernel⟩, by decide⟩
set_option maxRecDepth 100000 in
theorem im_X1_findBest : Cond.instanceMethod mX1_findBest.1 ∈ lw_good := memg 703 rfl rfl
set_option maxRecDepth 100000 in
theorem se_X1_findBest : Cond.selects mX1_findBest.1.cls mX1_findBest.1 mX1_findBest.1 ∈ lw_good := memg 704 rfl rfl
abbrev mX1_listAsks : MM := (yX1_listAsks, cX1_listAsks, 4, none)
set_option maxRecDepth 100000 in
theorem ok_X1_listAsks : MOK mX1_listAsks 2 := ⟨memg 710 rfl rfl, memg 82 rfl rfl, ⟨by decide, by decide, by decide +kernel⟩, by decide⟩
set_option maxRecDepth 100000 in
theorem im_X1_listAsks : Cond.instanceMethod mX1_listAsks.1 ∈ lw_good := memg 709 rfl rfl
set_option maxRecDepth 100000 in
theorem se_X1_listAsks : Cond.selects mX1_listAsks.1.cls mX1_listAsks.1 mX1_listAsks.1 ∈ lw_good := memg 15 rfl rfl
abbrev mX1_listAsk : MM := (yX1_listAsk, cX1_listAsk, 5, none)
set_option maxRecDepth 100000 in
theorem ok_X1_listAsk : MOK mX1_listAsk 4 := ⟨memg 715 rfl rfl, memg 82 rfl rfl, ⟨by decide, by decide, by decide +kernel⟩, by decide⟩
set_option maxRecDepth 100000 in
theorem im_X1_listAsk : Cond.instanceMethod mX1_listAsk.1 ∈ lw_good := memg 714 rfl rfl
set_option maxRecDepth 100000 in
theorem se_X1_listAsk : Cond.selects mX1_listAsk.1.cls mX1_listAsk.1 mX1_listAsk.1 ∈ lw_good := memg 16 rfl rfl
abbrev mX1_bearsAll : MM := (yX1_bearsAll, cX1_bearsAll, 3, some .boolean)
set_option maxRecDepth 100000 in
theorem ok_X1_bearsAll : MOK mX1_bearsAll 1 := ⟨memg 728 rfl rfl, memg 82 rfl rfl, ⟨by decide, by decide, by decide +kernel⟩, by decide⟩
set_option maxRecDepth 100000 in
theorem im_X1_bearsAll : Cond.instanceMethod mX1_bearsAll.1 ∈ lw_good := memg 727 rfl rfl
set_option maxRecDepth 100000 in
theorem se_X1_bearsAll : Cond.selects mX1_bearsAll.1.cls mX1_bearsAll.1 mX1_bearsAll.1 ∈ lw_good := memg 17 rfl rfl
abbrev mX1_putFirst : MM := (yX1_putFirst, cX1_putFirst, 5, none)
set_option maxRecDepth 100000 in
theorem ok_X1_putFirst : MOK mX1_putFirst 1 := ⟨memg 732 rfl rfl, memg 82 rfl rfl, ⟨by decide, by decide, by decide +kernel⟩, by decide⟩
set_option maxRecDepth 100000 in
theorem im_X1_putFirst : Cond.instanceMethod mX1_putFirst.1 ∈ lw_good := memg 731 rfl rfl
set_option maxRecDepth 100000 in
theorem se_X1_putFirst : Cond.selects mX1_putFirst.1.cls mX1_putFirst.1 mX1_putFirst.1 ∈ lw_good := memg 18 rfl rfl
abbrev mX1_choose : MM := (yX1_choose, cX1_choose, 6, none)
set_option maxRecDepth 100000 in
theorem ok_X1_choose : MOK mX1_choose 4 := ⟨memg 736 rfl rfl, memg 82 rfl rfl, ⟨by decide, by decide, by decide +kernel⟩, by decide⟩
set_option maxRecDepth 100000 in
theorem im_X1_choose : Cond.instanceMethod mX1_choose.1 ∈ lw_good := memg 735 rfl rfl
set_option maxRecDepth 100000 in
theorem se_X1_choose : Cond.selects mX1_choose.1.cls mX1_choose.1 mX1_choose.1 ∈ lw_good := memg 19 rfl rfl
abbrev mX1_attempt : MM := (yX1_attempt, cX1_attempt, 7, none)
set_option maxRecDepth 100000 in
theorem ok_X1_attempt : MOK mX1_attempt 5 := ⟨memg 747 rfl rfl, memg 82 rfl rfl, ⟨by decide, by decide, by decide +kernel⟩, by decide⟩
set_option maxRecDepth 100000 in
theorem im_X1_attempt : Cond.instanceMethod mX1_attempt.1 ∈ lw_good := memg 746 rfl rfl
set_option maxRecDepth 100000 in
theorem se_X1_attempt : Cond.selects mX1_attempt.1.cls mX1_attempt.1 mX1_attempt.1 ∈ lw_good := memg 21 rfl rfl
abbrev mX1_keep : MM := (yX1_keep, cX1_keep, 3, none)
set_option maxRecDepth 100000 in
theorem ok_X1_keep : MOK mX1_keep 2 := ⟨memg 740 rfl rfl, memg 82 rfl rfl, ⟨by decide, by decide, by decide +kernel⟩, by decide⟩
set_option maxRecDepth 100000 in
theorem im_X1_keep : Cond.instanceMethod mX1_keep.1 ∈ lw_good := memg 739 rfl rfl
set_option maxRecDepth 100000 in
theorem se_X1_keep : Cond.selects mX1_keep.1.cls mX1_keep.1 mX1_keep.1 ∈ lw_good := memg 20 rfl rfl
abbrev mX2_init : MM := (yX2_init, cX2_init, 1, none)
set_option maxRecDepth 100000 in
theorem ok_X2_init : MOK mX2_init 0 := ⟨memg 157 rfl rfl, memg 76 rfl rfl, ⟨by decide, by decide, by decide +kernel⟩, by decide⟩
set_option maxRecDepth 100000 in
theorem im_X2_init : Cond.instanceMethod mX2_init.1 ∈ lw_good := memg 156 rfl rfl
abbrev mX2_add : MM := (yX2_add, cX2_add, 3, some .int)
set_option maxRecDepth 100000 in
theorem ok_X2_add : MOK mX2_add 2 := ⟨memg 681 rfl rfl, memg 76 rfl rfl, ⟨by decide, by decide, by decide +kernel⟩, by decide⟩
set_option maxRecDepth 100000 in
theorem im_X2_add : Cond.instanceMethod mX2_add.1 ∈ lw_good := memg 679 rfl rfl
set_option maxRecDepth 100000 in
theorem se_X2_add : Cond.selects mX2_add.1.cls mX2_add.1 mX2_add.1 ∈ lw_good := memg 680 rfl rfl
abbrev mX3_init : MM := (yX3_init, cX3_init, 1, none)
set_option maxRecDepth 100000 in
theorem ok_X3_init : MOK mX3_init 0 := ⟨memg 106 rfl rfl, memg 74 rfl rfl, ⟨by decide, by decide, by decide +kernel⟩, by decide⟩
set_option maxRecDepth 100000 in
theorem im_X3_init : Cond.instanceMethod mX3_init.1 ∈ lw_good := memg 105 rfl rfl
abbrev mX3_put : MM := (yX3_put, cX3_put, 5, none)
set_option maxRecDepth 100000 in
theorem ok_X3_put : MOK mX3_put 2 := ⟨memg 631 rfl rfl, memg 74 rfl rfl, ⟨by decide, by decide, by decide +kernel⟩, by decide⟩
set_option maxRecDepth 100000 in
theorem im_X3_put : Cond.instanceMethod mX3_put.1 ∈ lw_good := memg 629 rfl rfl
set_option maxRecDepth 100000 in
theorem se_X3_put : Cond.selects mX3_put.1.cls mX3_put.1 mX3_put.1 ∈ lw_good := memg 630 rfl rfl
abbrev mX3_copy : MM := (yX3_copy, cX3_copy, 2, none)
set_option maxRecDepth 100000 in
theorem ok_X3_copy : MOK mX3_copy 1 := ⟨memg 913 rfl rfl, memg 74 rfl rfl, ⟨by decide, by decide, by decide +kernel⟩, by decide⟩
set_option maxRecDepth 100000 in
theorem im_X3_copy : Cond.instanceMethod mX3_copy.1 ∈ lw_good := memg 911 rfl rfl
set_option maxRecDepth 100000 in
theorem se_X3_copy : Cond.selects mX3_copy.1.cls mX3_copy.1 mX3_copy.1 ∈ lw_good := memg 912 rfl rfl
abbrev mX3_putSum : MM := (yX3_putSum, cX3_putSum, 7, none)
set_option maxRecDepth 100000 in
theorem ok_X3_putSum : MOK mX3_putSum 2 := ⟨memg 849 rfl rfl, memg 74 rfl rfl, ⟨by decide, by decide, by decide +kernel⟩, by decide⟩
set_option maxRecDepth 100000 in
theorem im_X3_putSum : Cond.instanceMethod mX3_putSum.1 ∈ lw_good := memg 847 rfl rfl
set_option maxRecDepth 100000 in
theorem se_X3_putSum : Cond.selects mX3_putSum.1.cls mX3_putSum.1 mX3_putSum.1 ∈ lw_good := memg 848 rfl rfl
abbrev mX3_divide : MM := (yX3_divide, cX3_divide, 5, none)
set_option maxRecDepth 100000 in
theorem ok_X3_divide : MOK mX3_divide 1 := ⟨memg 882 rfl rfl, memg 74 rfl rfl, ⟨by decide, by decide, by decide +kernel⟩, by decide⟩
set_option maxRecDepth 100000 in
theorem im_X3_divide : Cond.instanceMethod mX3_divide.1 ∈ lw_good := memg 880 rfl rfl
set_option maxRecDepth 100000 in
theorem se_X3_divide : Cond.selects mX3_divide.1.cls mX3_divide.1 mX3_divide.1 ∈ lw_good := memg 881 rfl rfl
abbrev mX3_isUnder : MM := (yX3_isUnder, cX3_isUnder, 2, some .boolean)
set_option maxRecDepth 100000 in
theorem ok_X3_isUnder : MOK mX3_isUnder 1 := ⟨memg 905 rfl rfl, memg 74 rfl rfl, ⟨by decide, by decide, by decide +kernel⟩, by decide⟩
set_option maxRecDepth 100000 in
theorem im_X3_isUnder : Cond.instanceMethod mX3_isUnder.1 ∈ lw_good := memg 903 rfl rfl
set_option maxRecDepth 100000 in
theorem se_X3_isUnder : Cond.selects mX3_isUnder.1.cls mX3_isUnder.1 mX3_isUnder.1 ∈ lw_good := memg 904 rfl rfl
abbrev mX4_init : MM := (yX4_init, cX4_init, 1, none)
set_option maxRecDepth 100000 in
theorem ok_X4_init : MOK mX4_init 0 := ⟨memg 364 rfl rfl, memg 83 rfl rfl, ⟨by decide, by decide, by decide +kernel⟩, by decide⟩
set_option maxRecDepth 100000 in
theorem im_X4_init : Cond.instanceMethod mX4_init.1 ∈ lw_good := memg 363 rfl rfl
abbrev mX4_begin : MM := (yX4_begin, cX4_begin, 3, none)
set_option maxRecDepth 100000 in
theorem ok_X4_begin : MOK mX4_begin 2 := ⟨memg 369 rfl rfl, memg 83 rfl rfl, ⟨by decide, by decide, by decide +kernel⟩, by decide⟩
set_option maxRecDepth 100000 in
theorem im_X4_begin : Cond.instanceMethod mX4_begin.1 ∈ lw_good := memg 367 rfl rfl
set_option maxRecDepth 100000 in
theorem se_X4_begin : Cond.selects mX4_begin.1.cls mX4_begin.1 mX4_begin.1 ∈ lw_good := memg 368 rfl rfl
abbrev mX4_addBand : MM := (yX4_addBand, cX4_addBand, 4, some .int)
set_option maxRecDepth 100000 in
theorem ok_X4_addBand : MOK mX4_addBand 3 := ⟨memg 532 rfl rfl, memg 83 rfl rfl, ⟨by decide, by decide, by decide +kernel⟩, by decide⟩
set_option maxRecDepth 100000 in
theorem im_X4_addBand : Cond.instanceMethod mX4_addBand.1 ∈ lw_good := memg 530 rfl rfl
set_option maxRecDepth 100000 in
theorem se_X4_addBand : Cond.selects mX4_addBand.1.cls mX4_addBand.1 mX4_addBand.1 ∈ lw_good := memg 531 rfl rfl
abbrev mX4_addRod : MM := (yX4_addRod, cX4_addRod, 3, some .int)
set_option maxRecDepth 100000 in
theorem ok_X4_addRod : MOK mX4_addRod 2 := ⟨memg 544 rfl rfl, memg 83 rfl rfl, ⟨by decide, by decide, by decide +kernel⟩, by decide⟩
set_option maxRecDepth 100000 in
theorem im_X4_addRod : Cond.instanceMethod mX4_addRod.1 ∈ lw_good := memg 542 rfl rfl
set_option maxRecDepth 100000 in
theorem se_X4_addRod : Cond.selects mX4_addRod.1.cls mX4_addRod.1 mX4_addRod.1 ∈ lw_good := memg 543 rfl rfl
abbrev mX4_area : MM := (yX4_area, cX4_area, 3, some .int)
set_option maxRecDepth 100000 in
theorem ok_X4_area : MOK mX4_area 0 := ⟨memg 377 rfl rfl, memg 83 rfl rfl, ⟨by decide, by decide, by decide +kernel⟩, by decide⟩
set_option maxRecDepth 100000 in
theorem im_X4_area : Cond.instanceMethod mX4_area.1 ∈ lw_good := memg 375 rfl rfl
set_option maxRecDepth 100000 in
theorem se_X4_area : Cond.selects mX4_area.1.cls mX4_area.1 mX4_area.1 ∈ lw_good := memg 376 rfl rfl
abbrev mX4_rodsTogether : MM := (yX4_rodsTogether, cX4_rodsTogether, 3, some .int)
set_option maxRecDepth 100000 in
theorem ok_X4_rodsTogether : MOK mX4_rodsTogether 0 := ⟨memg 561 rfl rfl, memg 83 rfl rfl, ⟨by decide, by decide, by decide +kernel⟩, by decide⟩
set_option maxRecDepth 100000 in
theorem im_X4_rodsTogether : Cond.instanceMethod mX4_rodsTogether.1 ∈ lw_good := memg 559 rfl rfl
set_option maxRecDepth 100000 in
theorem se_X4_rodsTogether : Cond.selects mX4_rodsTogether.1.cls mX4_rodsTogether.1 mX4_rodsTogether.1 ∈ lw_good := memg 560 rfl rfl
abbrev mX4_widthAbove : MM := (yX4_widthAbove, cX4_widthAbove, 4, some .int)
set_option maxRecDepth 100000 in
theorem ok_X4_widthAbove : MOK mX4_widthAbove 1 := ⟨memg 385 rfl rfl, memg 83 rfl rfl, ⟨by decide, by decide, by decide +kernel⟩, by decide⟩
set_option maxRecDepth 100000 in
theorem im_X4_widthAbove : Cond.instanceMethod mX4_widthAbove.1 ∈ lw_good := memg 383 rfl rfl
set_option maxRecDepth 100000 in
theorem se_X4_widthAbove : Cond.selects mX4_widthAbove.1.cls mX4_widthAbove.1 mX4_widthAbove.1 ∈ lw_good := memg 384 rfl rfl
abbrev mX4_findEdges : MM := (yX4_findEdges, cX4_findEdges, 2, none)
set_option maxRecDepth 100000 in
theorem ok_X4_findEdges : MOK mX4_findEdges 0 := ⟨memg 373 rfl rfl, memg 83 rfl rfl, ⟨by decide, by decide, by decide +kernel⟩, by decide⟩
set_option maxRecDepth 100000 in
theorem im_X4_findEdges : Cond.instanceMethod mX4_findEdges.1 ∈ lw_good := memg 372 rfl rfl
set_option maxRecDepth 100000 in
theorem se_X4_findEdges : Cond.selects mX4_findEdges.1.cls mX4_findEdges.1 mX4_findEdges.1 ∈ lw_good := memg 0 rfl rfl
abbrev mX4_isEdge : MM := (yX4_isEdge, cX4_isEdge, 4, some .boolean)
set_option maxRecDepth 100000 in
theorem ok_X4_isEdge : MOK mX4_isEdge 1 := ⟨memg 381 rfl rfl, memg 83 rfl rfl, ⟨by decide, by decide, by decide +kernel⟩, by decide⟩
set_option maxRecDepth 100000 in
theorem im_X4_isEdge : Cond.instanceMethod mX4_isEdge.1 ∈ lw_good := memg 380 rfl rfl
set_option maxRecDepth 100000 in
theorem se_X4_isEdge : Cond.selects mX4_isEdge.1.cls mX4_isEdge.1 mX4_isEdge.1 ∈ lw_good := memg 1 rfl rfl
abbrev mX4_placeRods : MM := (yX4_placeRods, cX4_placeRods, 4, none)
set_option maxRecDepth 100000 in
theorem ok_X4_placeRods : MOK mX4_placeRods 2 := ⟨memg 389 rfl rfl, memg 83 rfl rfl, ⟨by decide, by decide, by decide +kernel⟩, by decide⟩
set_option maxRecDepth 100000 in
theorem im_X4_placeRods : Cond.instanceMethod mX4_placeRods.1 ∈ lw_good := memg 388 rfl rfl
set_option maxRecDepth 100000 in
theorem se_X4_placeRods : Cond.selects mX4_placeRods.1.cls mX4_placeRods.1 mX4_placeRods.1 ∈ lw_good := memg 2 rfl rfl
abbrev mX5_init : MM := (yX5_init, cX5_init, 1, none)
set_option maxRecDepth 100000 in
theorem ok_X5_init : MOK mX5_init 0 := ⟨memg 213 rfl rfl, memg 80 rfl rfl, ⟨by decide, by decide, by decide +kernel⟩, by decide⟩
set_option maxRecDepth 100000 in
theorem im_X5_init : Cond.instanceMethod mX5_init.1 ∈ lw_good := memg 212 rfl rfl
abbrev mX5_put : MM := (yX5_put, cX5_put, 5, none)
set_option maxRecDepth 100000 in
theorem ok_X5_put : MOK mX5_put 2 := ⟨memg 824 rfl rfl, memg 80 rfl rfl, ⟨by decide, by decide, by decide +kernel⟩, by decide⟩
set_option maxRecDepth 100000 in
theorem im_X5_put : Cond.instanceMethod mX5_put.1 ∈ lw_good := memg 822 rfl rfl
set_option maxRecDepth 100000 in
theorem se_X5_put : Cond.selects mX5_put.1.cls mX5_put.1 mX5_put.1 ∈ lw_good := memg 823 rfl rfl
abbrev mX5_shorten : MM := (yX5_shorten, cX5_shorten, 3, none)
set_option maxRecDepth 100000 in
theorem ok_X5_shorten : MOK mX5_shorten 0 := ⟨memg 620 rfl rfl, memg 80 rfl rfl, ⟨by decide, by decide, by decide +kernel⟩, by decide⟩
set_option maxRecDepth 100000 in
theorem im_X5_shorten : Cond.instanceMethod mX5_shorten.1 ∈ lw_good := memg 618 rfl rfl
set_option maxRecDepth 100000 in
theorem se_X5_shorten : Cond.selects mX5_shorten.1.cls mX5_shorten.1 mX5_shorten.1 ∈ lw_good := memg 619 rfl rfl
abbrev mX5_scale : MM := (yX5_scale, cX5_scale, 3, none)
set_option maxRecDepth 100000 in
theorem ok_X5_scale : MOK mX5_scale 1 := ⟨memg 840 rfl rfl, memg 80 rfl rfl, ⟨by decide, by decide, by decide +kernel⟩, by decide⟩
set_option maxRecDepth 100000 in
theorem im_X5_scale : Cond.instanceMethod mX5_scale.1 ∈ lw_good := memg 838 rfl rfl
set_option maxRecDepth 100000 in
theorem se_X5_scale : Cond.selects mX5_scale.1.cls mX5_scale.1 mX5_scale.1 ∈ lw_good := memg 839 rfl rfl
abbrev mX5_plus : MM := (yX5_plus, cX5_plus, 2, none)
set_option maxRecDepth 100000 in
theorem ok_X5_plus : MOK mX5_plus 1 := ⟨memg 845 rfl rfl, memg 80 rfl rfl, ⟨by decide, by decide, by decide +kernel⟩, by decide⟩
set_option maxRecDepth 100000 in
theorem im_X5_plus : Cond.instanceMethod mX5_plus.1 ∈ lw_good := memg 843 rfl rfl
set_option maxRecDepth 100000 in
theorem se_X5_plus : Cond.selects mX5_plus.1.cls mX5_plus.1 mX5_plus.1 ∈ lw_good := memg 844 rfl rfl
abbrev mX5_isUnder : MM := (yX5_isUnder, cX5_isUnder, 2, some .boolean)
set_option maxRecDepth 100000 in
theorem ok_X5_isUnder : MOK mX5_isUnder 1 := ⟨memg 836 rfl rfl, memg 80 rfl rfl, ⟨by decide, by decide, by decide +kernel⟩, by decide⟩
set_option maxRecDepth 100000 in
theorem im_X5_isUnder : Cond.instanceMethod mX5_isUnder.1 ∈ lw_good := memg 834 rfl rfl
set_option maxRecDepth 100000 in
theorem se_X5_isUnder : Cond.selects mX5_isUnder.1.cls mX5_isUnder.1 mX5_isUnder.1 ∈ lw_good := memg 835 rfl rfl
abbrev mX6_init : MM := (yX6_init, cX6_init, 1, none)
set_option maxRecDepth 100000 in
theorem ok_X6_init : MOK mX6_init 0 := ⟨memg 179 rfl rfl, memg 77 rfl rfl, ⟨by decide, by decide, by decide +kernel⟩, by decide⟩
set_option maxRecDepth 100000 in
theorem im_X6_init : Cond.instanceMethod mX6_init.1 ∈ lw_good := memg 178 rfl rfl
abbrev mX6_add : MM := (yX6_add, cX6_add, 3, some .int)
set_option maxRecDepth 100000 in
theorem ok_X6_add : MOK mX6_add 2 := ⟨memg 697 rfl rfl, memg 77 rfl rfl, ⟨by decide, by decide, by decide +kernel⟩, by decide⟩
set_option maxRecDepth 100000 in
theorem im_X6_add : Cond.instanceMethod mX6_add.1 ∈ lw_good := memg 695 rfl rfl
set_option maxRecDepth 100000 in
theorem se_X6_add : Cond.selects mX6_add.1.cls mX6_add.1 mX6_add.1 ∈ lw_good := memg 696 rfl rfl
abbrev mX6_strengthOf : MM := (yX6_strengthOf, cX6_strengthOf, 2, some .int)
set_option maxRecDepth 100000 in
theorem ok_X6_strengthOf : MOK mX6_strengthOf 1 := ⟨memg 760 rfl rfl, memg 77 rfl rfl, ⟨by decide, by decide, by decide +kernel⟩, by decide⟩
set_option maxRecDepth 100000 in
theorem im_X6_strengthOf : Cond.instanceMethod mX6_strengthOf.1 ∈ lw_good := memg 758 rfl rfl
set_option maxRecDepth 100000 in
theorem se_X6_strengthOf : Cond.selects mX6_strengthOf.1.cls mX6_strengthOf.1 mX6_strengthOf.1 ∈ lw_good := memg 759 rfl rfl
abbrev mX6_priceOf : MM := (yX6_priceOf, cX6_priceOf, 2, some .int)
set_option maxRecDepth 100000 in
theorem ok_X6_priceOf : MOK mX6_priceOf 1 := ⟨memg 751 rfl rfl, memg 77 rfl rfl, ⟨by decide, by decide, by decide +kernel⟩, by decide⟩
set_option maxRecDepth 100000 in
theorem im_X6_priceOf : Cond.instanceMethod mX6_priceOf.1 ∈ lw_good := memg 749 rfl rfl
set_option maxRecDepth 100000 in
theorem se_X6_priceOf : Cond.selects mX6_priceOf.1.cls mX6_priceOf.1 mX6_priceOf.1 ∈ lw_good := memg 750 rfl rfl
abbrev mX6_strongest : MM := (yX6_strongest, cX6_strongest, 3, some .int)
set_option maxRecDepth 100000 in
theorem ok_X6_strongest : MOK mX6_strongest 0 := ⟨memg 720 rfl rfl, memg 77 rfl rfl, ⟨by decide, by decide, by decide +kernel⟩, by decide⟩
set_option maxRecDepth 100000 in
theorem im_X6_strongest : Cond.instanceMethod mX6_strongest.1 ∈ lw_good := memg 718 rfl rfl
set_option maxRecDepth 100000 in
theorem se_X6_strongest : Cond.selects mX6_strongest.1.cls mX6_strongest.1 mX6_strongest.1 ∈ lw_good := memg 719 rfl rfl
abbrev mX6_isIdle : MM := (yX6_isIdle, cX6_isIdle, 7, some .boolean)
set_option maxRecDepth 100000 in
theorem ok_X6_isIdle : MOK mX6_isIdle 1 := ⟨memg 755 rfl rfl, memg 77 rfl rfl, ⟨by decide, by decide, by decide +kernel⟩, by decide⟩
set_option maxRecDepth 100000 in
theorem im_X6_isIdle : Cond.instanceMethod mX6_isIdle.1 ∈ lw_good := memg 753 rfl rfl
set_option maxRecDepth 100000 in
theorem se_X6_isIdle : Cond.selects mX6_isIdle.1.cls mX6_isIdle.1 mX6_isIdle.1 ∈ lw_good := memg 754 rfl rfl
abbrev mX7_init : MM := (yX7_init, cX7_init, 1, none)
set_option maxRecDepth 100000 in
theorem ok_X7_init : MOK mX7_init 0 := ⟨memg 258 rfl rfl, memg 81 rfl rfl, ⟨by decide, by decide, by decide +kernel⟩, by decide⟩
set_option maxRecDepth 100000 in
theorem im_X7_init : Cond.instanceMethod mX7_init.1 ∈ lw_good := memg 257 rfl rfl
abbrev mX7_hasLoadAt : MM := (yX7_hasLoadAt, cX7_hasLoadAt, 4, some .boolean)
set_option maxRecDepth 100000 in
theorem ok_X7_hasLoadAt : MOK mX7_hasLoadAt 1 := ⟨memg 802 rfl rfl, memg 81 rfl rfl, ⟨by decide, by decide, by decide +kernel⟩, by decide⟩
set_option maxRecDepth 100000 in
theorem im_X7_hasLoadAt : Cond.instanceMethod mX7_hasLoadAt.1 ∈ lw_good := memg 800 rfl rfl
set_option maxRecDepth 100000 in
theorem se_X7_hasLoadAt : Cond.selects mX7_hasLoadAt.1.cls mX7_hasLoadAt.1 mX7_hasLoadAt.1 ∈ lw_good := memg 801 rfl rfl
abbrev mX7_addLoad : MM := (yX7_addLoad, cX7_addLoad, 3, some .int)
set_option maxRecDepth 100000 in
theorem ok_X7_addLoad : MOK mX7_addLoad 2 := ⟨memg 806 rfl rfl, memg 81 rfl rfl, ⟨by decide, by decide, by decide +kernel⟩, by decide⟩
set_option maxRecDepth 100000 in
theorem im_X7_addLoad : Cond.instanceMethod mX7_addLoad.1 ∈ lw_good := memg 804 rfl rfl
set_option maxRecDepth 100000 in
theorem se_X7_addLoad : Cond.selects mX7_addLoad.1.cls mX7_addLoad.1 mX7_addLoad.1 ∈ lw_good := memg 805 rfl rfl
abbrev mX7_freeTimesLength : MM := (yX7_freeTimesLength, cX7_freeTimesLength, 7, some .long)
set_option maxRecDepth 100000 in
theorem ok_X7_freeTimesLength : MOK mX7_freeTimesLength 1 := ⟨memg 876 rfl rfl, memg 81 rfl rfl, ⟨by decide, by decide, by decide +kernel⟩, by decide⟩
set_option maxRecDepth 100000 in
theorem im_X7_freeTimesLength : Cond.instanceMethod mX7_freeTimesLength.1 ∈ lw_good := memg 874 rfl rfl
set_option maxRecDepth 100000 in
theorem se_X7_freeTimesLength : Cond.selects mX7_freeTimesLength.1.cls mX7_freeTimesLength.1 mX7_freeTimesLength.1 ∈ lw_good := memg 875 rfl rfl
abbrev mX8_init : MM := (yX8_init, cX8_init, 1, none)
set_option maxRecDepth 100000 in
theorem ok_X8_init : MOK mX8_init 0 := ⟨memg 100 rfl rfl, memg 73 rfl rfl, ⟨by decide, by decide, by decide +kernel⟩, by decide⟩
set_option maxRecDepth 100000 in
theorem im_X8_init : Cond.instanceMethod mX8_init.1 ∈ lw_good := memg 99 rfl rfl
abbrev mX8_writeShare : MM := (yX8_writeShare, cX8_writeShare, 2, none)
set_option maxRecDepth 100000 in
theorem ok_X8_writeShare : MOK mX8_writeShare 1 := ⟨memg 616 rfl rfl, memg 73 rfl rfl, ⟨by decide, by decide, by decide +kernel⟩, by decide⟩
set_option maxRecDepth 100000 in
theorem im_X8_writeShare : Cond.instanceMethod mX8_writeShare.1 ∈ lw_good := memg 614 rfl rfl
set_option maxRecDepth 100000 in
theorem se_X8_writeShare : Cond.selects mX8_writeShare.1.cls mX8_writeShare.1 mX8_writeShare.1 ∈ lw_good := memg 615 rfl rfl
abbrev mX8_writeRatio : MM := (yX8_writeRatio, cX8_writeRatio, 3, none)
set_option maxRecDepth 100000 in
theorem ok_X8_writeRatio : MOK mX8_writeRatio 2 := ⟨memg 640 rfl rfl, memg 73 rfl rfl, ⟨by decide, by decide, by decide +kernel⟩, by decide⟩
set_option maxRecDepth 100000 in
theorem im_X8_writeRatio : Cond.instanceMethod mX8_writeRatio.1 ∈ lw_good := memg 638 rfl rfl
set_option maxRecDepth 100000 in
theorem se_X8_writeRatio : Cond.selects mX8_writeRatio.1.cls mX8_writeRatio.1 mX8_writeRatio.1 ∈ lw_good := memg 639 rfl rfl
abbrev mX8_writeWhole : MM := (yX8_writeWhole, cX8_writeWhole, 8, none)
set_option maxRecDepth 100000 in
theorem ok_X8_writeWhole : MOK mX8_writeWhole 1 := ⟨memg 648 rfl rfl, memg 73 rfl rfl, ⟨by decide, by decide, by decide +kernel⟩, by decide⟩
set_option maxRecDepth 100000 in
theorem im_X8_writeWhole : Cond.instanceMethod mX8_writeWhole.1 ∈ lw_good := memg 647 rfl rfl
set_option maxRecDepth 100000 in
theorem se_X8_writeWhole : Cond.selects mX8_writeWhole.1.cls mX8_writeWhole.1 mX8_writeWhole.1 ∈ lw_good := memg 12 rfl rfl
abbrev mX8_write : MM := (yX8_write, cX8_write, 2, none)
set_option maxRecDepth 100000 in
theorem ok_X8_write : MOK mX8_write 1 := ⟨memg 644 rfl rfl, memg 73 rfl rfl, ⟨by decide, by decide, by decide +kernel⟩, by decide⟩
set_option maxRecDepth 100000 in
theorem im_X8_write : Cond.instanceMethod mX8_write.1 ∈ lw_good := memg 643 rfl rfl
set_option maxRecDepth 100000 in
theorem se_X8_write : Cond.selects mX8_write.1.cls mX8_write.1 mX8_write.1 ∈ lw_good := memg 11 rfl rfl
abbrev mX9_init : MM := (yX9_init, cX9_init, 1, none)
set_option maxRecDepth 100000 in
theorem ok_X9_init : MOK mX9_init 0 := ⟨memg 207 rfl rfl, memg 79 rfl rfl, ⟨by decide, by decide, by decide +kernel⟩, by decide⟩
set_option maxRecDepth 100000 in
theorem im_X9_init : Cond.instanceMethod mX9_init.1 ∈ lw_good := memg 206 rfl rfl
abbrev mX9_arm : MM := (yX9_arm, cX9_arm, 7, none)
set_option maxRecDepth 100000 in
theorem ok_X9_arm : MOK mX9_arm 2 := ⟨memg 587 rfl rfl, memg 79 rfl rfl, ⟨by decide, by decide, by decide +kernel⟩, by decide⟩
set_option maxRecDepth 100000 in
theorem im_X9_arm : Cond.instanceMethod mX9_arm.1 ∈ lw_good := memg 585 rfl rfl
set_option maxRecDepth 100000 in
theorem se_X9_arm : Cond.selects mX9_arm.1.cls mX9_arm.1 mX9_arm.1 ∈ lw_good := memg 586 rfl rfl
abbrev mX9_reaches : MM := (yX9_reaches, cX9_reaches, 2, some .boolean)
set_option maxRecDepth 100000 in
theorem ok_X9_reaches : MOK mX9_reaches 1 := ⟨memg 595 rfl rfl, memg 79 rfl rfl, ⟨by decide, by decide, by decide +kernel⟩, by decide⟩
set_option maxRecDepth 100000 in
theorem im_X9_reaches : Cond.instanceMethod mX9_reaches.1 ∈ lw_good := memg 593 rfl rfl
set_option maxRecDepth 100000 in
theorem se_X9_reaches : Cond.selects mX9_reaches.1.cls mX9_reaches.1 mX9_reaches.1 ∈ lw_good := memg 594 rfl rfl
abbrev mX9_bearsOn : MM := (yX9_bearsOn, cX9_bearsOn, 7, some .boolean)
set_option maxRecDepth 100000 in
theorem ok_X9_bearsOn : MOK mX9_bearsOn 4 := ⟨memg 667 rfl rfl, memg 79 rfl rfl, ⟨by decide, by decide, by decide +kernel⟩, by decide⟩
set_option maxRecDepth 100000 in
theorem im_X9_bearsOn : Cond.instanceMethod mX9_bearsOn.1 ∈ lw_good := memg 665 rfl rfl
set_option maxRecDepth 100000 in
theorem se_X9_bearsOn : Cond.selects mX9_bearsOn.1.cls mX9_bearsOn.1 mX9_bearsOn.1 ∈ lw_good := memg 666 rfl rfl
abbrev mX9_fill : MM := (yX9_fill, cX9_fill, 20, none)
set_option maxRecDepth 100000 in
theorem ok_X9_fill : MOK mX9_fill 3 := ⟨memg 599 rfl rfl, memg 79 rfl rfl, ⟨by decide, by decide, by decide +kernel⟩, by decide⟩
set_option maxRecDepth 100000 in
theorem im_X9_fill : Cond.instanceMethod mX9_fill.1 ∈ lw_good := memg 597 rfl rfl
set_option maxRecDepth 100000 in
theorem se_X9_fill : Cond.selects mX9_fill.1.cls mX9_fill.1 mX9_fill.1 ∈ lw_good := memg 598 rfl rfl
abbrev mX10_init : MM := (yX10_init, cX10_init, 1, none)
set_option maxRecDepth 100000 in
theorem ok_X10_init : MOK mX10_init 0 := ⟨memg 112 rfl rfl, memg 75 rfl rfl, ⟨by decide, by decide, by decide +kernel⟩, by decide⟩
set_option maxRecDepth 100000 in
theorem im_X10_init : Cond.instanceMethod mX10_init.1 ∈ lw_good := memg 111 rfl rfl
abbrev mX10_put : MM := (yX10_put, cX10_put, 6, none)
set_option maxRecDepth 100000 in
theorem ok_X10_put : MOK mX10_put 1 := ⟨memg 635 rfl rfl, memg 75 rfl rfl, ⟨by decide, by decide, by decide +kernel⟩, by decide⟩
set_option maxRecDepth 100000 in
theorem im_X10_put : Cond.instanceMethod mX10_put.1 ∈ lw_good := memg 633 rfl rfl
set_option maxRecDepth 100000 in
theorem se_X10_put : Cond.selects mX10_put.1.cls mX10_put.1 mX10_put.1 ∈ lw_good := memg 634 rfl rfl
abbrev mX10_copy : MM := (yX10_copy, cX10_copy, 2, none)
set_option maxRecDepth 100000 in
theorem ok_X10_copy : MOK mX10_copy 1 := ⟨memg 886 rfl rfl, memg 75 rfl rfl, ⟨by decide, by decide, by decide +kernel⟩, by decide⟩
set_option maxRecDepth 100000 in
theorem im_X10_copy : Cond.instanceMethod mX10_copy.1 ∈ lw_good := memg 884 rfl rfl
set_option maxRecDepth 100000 in
theorem se_X10_copy : Cond.selects mX10_copy.1.cls mX10_copy.1 mX10_copy.1 ∈ lw_good := memg 885 rfl rfl
abbrev mX10_plus : MM := (yX10_plus, cX10_plus, 7, none)
set_option maxRecDepth 100000 in
theorem ok_X10_plus : MOK mX10_plus 1 := ⟨memg 864 rfl rfl, memg 75 rfl rfl, ⟨by decide, by decide, by decide +kernel⟩, by decide⟩
set_option maxRecDepth 100000 in
theorem im_X10_plus : Cond.instanceMethod mX10_plus.1 ∈ lw_good := memg 862 rfl rfl
set_option maxRecDepth 100000 in
theorem se_X10_plus : Cond.selects mX10_plus.1.cls mX10_plus.1 mX10_plus.1 ∈ lw_good := memg 863 rfl rfl
abbrev mX10_product : MM := (yX10_product, cX10_product, 9, none)
set_option maxRecDepth 100000 in
theorem ok_X10_product : MOK mX10_product 2 := ⟨memg 857 rfl rfl, memg 75 rfl rfl, ⟨by decide, by decide, by decide +kernel⟩, by decide⟩
set_option maxRecDepth 100000 in
theorem im_X10_product : Cond.instanceMethod mX10_product.1 ∈ lw_good := memg 855 rfl rfl
set_option maxRecDepth 100000 in
theorem se_X10_product : Cond.selects mX10_product.1.cls mX10_product.1 mX10_product.1 ∈ lw_good := memg 856 rfl rfl
abbrev mX10_restBy : MM := (yX10_restBy, cX10_restBy, 6, some .long)
set_option maxRecDepth 100000 in
theorem ok_X10_restBy : MOK mX10_restBy 1 := ⟨memg 868 rfl rfl, memg 75 rfl rfl, ⟨by decide, by decide, by decide +kernel⟩, by decide⟩
set_option maxRecDepth 100000 in
theorem im_X10_restBy : Cond.instanceMethod mX10_restBy.1 ∈ lw_good := memg 866 rfl rfl
set_option maxRecDepth 100000 in
theorem se_X10_restBy : Cond.selects mX10_restBy.1.cls mX10_restBy.1 mX10_restBy.1 ∈ lw_good := memg 867 rfl rfl
abbrev mX10_divide : MM := (yX10_divide, cX10_divide, 8, none)
set_option maxRecDepth 100000 in
theorem ok_X10_divide : MOK mX10_divide 1 := ⟨memg 872 rfl rfl, memg 75 rfl rfl, ⟨by decide, by decide, by decide +kernel⟩, by decide⟩
set_option maxRecDepth 100000 in
theorem im_X10_divide : Cond.instanceMethod mX10_divide.1 ∈ lw_good := memg 870 rfl rfl
set_option maxRecDepth 100000 in
theorem se_X10_divide : Cond.selects mX10_divide.1.cls mX10_divide.1 mX10_divide.1 ∈ lw_good := memg 871 rfl rfl
abbrev mX10_isUnder : MM := (yX10_isUnder, cX10_isUnder, 3, some .boolean)
set_option maxRecDepth 100000 in
theorem ok_X10_isUnder : MOK mX10_isUnder 1 := ⟨memg 909 rfl rfl, memg 75 rfl rfl, ⟨by decide, by decide, by decide +kernel⟩, by decide⟩
set_option maxRecDepth 100000 in
theorem im_X10_isUnder : Cond.instanceMethod mX10_isUnder.1 ∈ lw_good := memg 907 rfl rfl
set_option maxRecDepth 100000 in
theorem se_X10_isUnder : Cond.selects mX10_isUnder.1.cls mX10_isUnder.1 mX10_isUnder.1 ∈ lw_good := memg 908 rfl rfl
abbrev mX11_init : MM := (yX11_init, cX11_init, 2, none)
set_option maxRecDepth 100000 in
theorem ok_X11_init : MOK mX11_init 0 := ⟨memg 92 rfl rfl, memg 72 rfl rfl, ⟨by decide, by decide, by decide +kernel⟩, by decide⟩
set_option maxRecDepth 100000 in
theorem im_X11_init : Cond.instanceMethod mX11_init.1 ∈ lw_good := memg 91 rfl rfl
abbrev mX11_status : MM := (yX11_status, cX11_status, 1, some .int)
set_option maxRecDepth 100000 in
theorem ok_X11_status : MOK mX11_status 0 := ⟨memg 496 rfl rfl, memg 72 rfl rfl, ⟨by decide, by decide, by decide +kernel⟩, by decide⟩
set_option maxRecDepth 100000 in
theorem im_X11_status : Cond.instanceMethod mX11_status.1 ∈ lw_good := memg 494 rfl rfl
set_option maxRecDepth 100000 in
theorem se_X11_status : Cond.selects mX11_status.1.cls mX11_status.1 mX11_status.1 ∈ lw_good := memg 495 rfl rfl
abbrev mX11_out : MM := (yX11_out, cX11_out, 2, some .int)
set_option maxRecDepth 100000 in
theorem ok_X11_out : MOK mX11_out 1 := ⟨memg 500 rfl rfl, memg 72 rfl rfl, ⟨by decide, by decide, by decide +kernel⟩, by decide⟩
set_option maxRecDepth 100000 in
theorem im_X11_out : Cond.instanceMethod mX11_out.1 ∈ lw_good := memg 498 rfl rfl
set_option maxRecDepth 100000 in
theorem se_X11_out : Cond.selects mX11_out.1.cls mX11_out.1 mX11_out.1 ∈ lw_good := memg 499 rfl rfl
abbrev mX11_stone : MM := (yX11_stone, cX11_stone, 4, some .boolean)
set_option maxRecDepth 100000 in
theorem ok_X11_stone : MOK mX11_stone 3 := ⟨memg 504 rfl rfl, memg 72 rfl rfl, ⟨by decide, by decide, by decide +kernel⟩, by decide⟩
set_option maxRecDepth 100000 in
theorem im_X11_stone : Cond.instanceMethod mX11_stone.1 ∈ lw_good := memg 502 rfl rfl
set_option maxRecDepth 100000 in
theorem se_X11_stone : Cond.selects mX11_stone.1.cls mX11_stone.1 mX11_stone.1 ∈ lw_good := memg 503 rfl rfl
abbrev mX11_band : MM := (yX11_band, cX11_band, 6, some .int)
set_option maxRecDepth 100000 in
theorem ok_X11_band : MOK mX11_band 4 := ⟨memg 524 rfl rfl, memg 72 rfl rfl, ⟨by decide, by decide, by decide +kernel⟩, by decide⟩
set_option maxRecDepth 100000 in
theorem im_X11_band : Cond.instanceMethod mX11_band.1 ∈ lw_good := memg 522 rfl rfl
set_option maxRecDepth 100000 in
theorem se_X11_band : Cond.selects mX11_band.1.cls mX11_band.1 mX11_band.1 ∈ lw_good := memg 523 rfl rfl
abbrev mX11_rod : MM := (yX11_rod, cX11_rod, 5, some .int)
set_option maxRecDepth 100000 in
theorem ok_X11_rod : MOK mX11_rod 3 := ⟨memg 540 rfl rfl, memg 72 rfl rfl, ⟨by decide, by decide, by decide +kernel⟩, by decide⟩
set_option maxRecDepth 100000 in
theorem im_X11_rod : Cond.instanceMethod mX11_rod.1 ∈ lw_good := memg 538 rfl rfl
set_option maxRecDepth 100000 in
theorem se_X11_rod : Cond.selects mX11_rod.1.cls mX11_rod.1 mX11_rod.1 ∈ lw_good := memg 539 rfl rfl
abbrev mX11_change : MM := (yX11_change, cX11_change, 4, some .boolean)
set_option maxRecDepth 100000 in
theorem ok_X11_change : MOK mX11_change 3 := ⟨memg 548 rfl rfl, memg 72 rfl rfl, ⟨by decide, by decide, by decide +kernel⟩, by decide⟩
set_option maxRecDepth 100000 in
theorem im_X11_change : Cond.instanceMethod mX11_change.1 ∈ lw_good := memg 546 rfl rfl
set_option maxRecDepth 100000 in
theorem se_X11_change : Cond.selects mX11_change.1.cls mX11_change.1 mX11_change.1 ∈ lw_good := memg 547 rfl rfl
abbrev mX11_told : MM := (yX11_told, cX11_told, 4, some .int)
set_option maxRecDepth 100000 in
theorem ok_X11_told : MOK mX11_told 2 := ⟨memg 556 rfl rfl, memg 72 rfl rfl, ⟨by decide, by decide, by decide +kernel⟩, by decide⟩
set_option maxRecDepth 100000 in
theorem im_X11_told : Cond.instanceMethod mX11_told.1 ∈ lw_good := memg 554 rfl rfl
set_option maxRecDepth 100000 in
theorem se_X11_told : Cond.selects mX11_told.1.cls mX11_told.1 mX11_told.1 ∈ lw_good := memg 555 rfl rfl
abbrev mX11_strength : MM := (yX11_strength, cX11_strength, 3, some .int)
set_option maxRecDepth 100000 in
theorem ok_X11_strength : MOK mX11_strength 2 := ⟨memg 565 rfl rfl, memg 72 rfl rfl, ⟨by decide, by decide, by decide +kernel⟩, by decide⟩
set_option maxRecDepth 100000 in
theorem im_X11_strength : Cond.instanceMethod mX11_strength.1 ∈ lw_good := memg 563 rfl rfl
set_option maxRecDepth 100000 in
theorem se_X11_strength : Cond.selects mX11_strength.1.cls mX11_strength.1 mX11_strength.1 ∈ lw_good := memg 564 rfl rfl
abbrev mX11_width : MM := (yX11_width, cX11_width, 3, some .int)
set_option maxRecDepth 100000 in
theorem ok_X11_width : MOK mX11_width 2 := ⟨memg 569 rfl rfl, memg 72 rfl rfl, ⟨by decide, by decide, by decide +kernel⟩, by decide⟩
set_option maxRecDepth 100000 in
theorem im_X11_width : Cond.instanceMethod mX11_width.1 ∈ lw_good := memg 567 rfl rfl
set_option maxRecDepth 100000 in
theorem se_X11_width : Cond.selects mX11_width.1.cls mX11_width.1 mX11_width.1 ∈ lw_good := memg 568 rfl rfl
abbrev mX11_bend : MM := (yX11_bend, cX11_bend, 5, some .int)
set_option maxRecDepth 100000 in
theorem ok_X11_bend : MOK mX11_bend 3 := ⟨memg 574 rfl rfl, memg 72 rfl rfl, ⟨by decide, by decide, by decide +kernel⟩, by decide⟩
set_option maxRecDepth 100000 in
theorem im_X11_bend : Cond.instanceMethod mX11_bend.1 ∈ lw_good := memg 572 rfl rfl
set_option maxRecDepth 100000 in
theorem se_X11_bend : Cond.selects mX11_bend.1.cls mX11_bend.1 mX11_bend.1 ∈ lw_good := memg 573 rfl rfl
abbrev mX11_cut : MM := (yX11_cut, cX11_cut, 5, some .int)
set_option maxRecDepth 100000 in
theorem ok_X11_cut : MOK mX11_cut 3 := ⟨memg 655 rfl rfl, memg 72 rfl rfl, ⟨by decide, by decide, by decide +kernel⟩, by decide⟩
set_option maxRecDepth 100000 in
theorem im_X11_cut : Cond.instanceMethod mX11_cut.1 ∈ lw_good := memg 653 rfl rfl
set_option maxRecDepth 100000 in
theorem se_X11_cut : Cond.selects mX11_cut.1.cls mX11_cut.1 mX11_cut.1 ∈ lw_good := memg 654 rfl rfl
abbrev mX11_borne : MM := (yX11_borne, cX11_borne, 4, some .int)
set_option maxRecDepth 100000 in
theorem ok_X11_borne : MOK mX11_borne 3 := ⟨memg 659 rfl rfl, memg 72 rfl rfl, ⟨by decide, by decide, by decide +kernel⟩, by decide⟩
set_option maxRecDepth 100000 in
theorem im_X11_borne : Cond.instanceMethod mX11_borne.1 ∈ lw_good := memg 657 rfl rfl
set_option maxRecDepth 100000 in
theorem se_X11_borne : Cond.selects mX11_borne.1.cls mX11_borne.1 mX11_borne.1 ∈ lw_good := memg 658 rfl rfl
abbrev mX11_pair : MM := (yX11_pair, cX11_pair, 3, some .int)
set_option maxRecDepth 100000 in
theorem ok_X11_pair : MOK mX11_pair 2 := ⟨memg 673 rfl rfl, memg 72 rfl rfl, ⟨by decide, by decide, by decide +kernel⟩, by decide⟩
set_option maxRecDepth 100000 in
theorem im_X11_pair : Cond.instanceMethod mX11_pair.1 ∈ lw_good := memg 671 rfl rfl
set_option maxRecDepth 100000 in
theorem se_X11_pair : Cond.selects mX11_pair.1.cls mX11_pair.1 mX11_pair.1 ∈ lw_good := memg 672 rfl rfl
abbrev mX11_clear : MM := (yX11_clear, cX11_clear, 1, some .boolean)
set_option maxRecDepth 100000 in
theorem ok_X11_clear : MOK mX11_clear 0 := ⟨memg 685 rfl rfl, memg 72 rfl rfl, ⟨by decide, by decide, by decide +kernel⟩, by decide⟩
set_option maxRecDepth 100000 in
theorem im_X11_clear : Cond.instanceMethod mX11_clear.1 ∈ lw_good := memg 683 rfl rfl
set_option maxRecDepth 100000 in
theorem se_X11_clear : Cond.selects mX11_clear.1.cls mX11_clear.1 mX11_clear.1 ∈ lw_good := memg 684 rfl rfl
abbrev mX11_safe : MM := (yX11_safe, cX11_safe, 3, some .int)
set_option maxRecDepth 100000 in
theorem ok_X11_safe : MOK mX11_safe 1 := ⟨memg 689 rfl rfl, memg 72 rfl rfl, ⟨by decide, by decide, by decide +kernel⟩, by decide⟩
set_option maxRecDepth 100000 in
theorem im_X11_safe : Cond.instanceMethod mX11_safe.1 ∈ lw_good := memg 687 rfl rfl
set_option maxRecDepth 100000 in
theorem se_X11_safe : Cond.selects mX11_safe.1.cls mX11_safe.1 mX11_safe.1 ∈ lw_good := memg 688 rfl rfl
abbrev mX11_size : MM := (yX11_size, cX11_size, 3, some .int)
set_option maxRecDepth 100000 in
theorem ok_X11_size : MOK mX11_size 2 := ⟨memg 693 rfl rfl, memg 72 rfl rfl, ⟨by decide, by decide, by decide +kernel⟩, by decide⟩
set_option maxRecDepth 100000 in
theorem im_X11_size : Cond.instanceMethod mX11_size.1 ∈ lw_good := memg 691 rfl rfl
set_option maxRecDepth 100000 in
theorem se_X11_size : Cond.selects mX11_size.1.cls mX11_size.1 mX11_size.1 ∈ lw_good := memg 692 rfl rfl
abbrev mX11_best : MM := (yX11_best, cX11_best, 3, some .int)
set_option maxRecDepth 100000 in
theorem ok_X11_best : MOK mX11_best 1 := ⟨memg 701 rfl rfl, memg 72 rfl rfl, ⟨by decide, by decide, by decide +kernel⟩, by decide⟩
set_option maxRecDepth 100000 in
theorem im_X11_best : Cond.instanceMethod mX11_best.1 ∈ lw_good := memg 699 rfl rfl
set_option maxRecDepth 100000 in
theorem se_X11_best : Cond.selects mX11_best.1.cls mX11_best.1 mX11_best.1 ∈ lw_good := memg 700 rfl rfl
abbrev mX11_chosen : MM := (yX11_chosen, cX11_chosen, 4, some .int)
set_option maxRecDepth 100000 in
theorem ok_X11_chosen : MOK mX11_chosen 2 := ⟨memg 765 rfl rfl, memg 72 rfl rfl, ⟨by decide, by decide, by decide +kernel⟩, by decide⟩
set_option maxRecDepth 100000 in
theorem im_X11_chosen : Cond.instanceMethod mX11_chosen.1 ∈ lw_good := memg 763 rfl rfl
set_option maxRecDepth 100000 in
theorem se_X11_chosen : Cond.selects mX11_chosen.1.cls mX11_chosen.1 mX11_chosen.1 ∈ lw_good := memg 764 rfl rfl
abbrev mX11_take : MM := (yX11_take, cX11_take, 3, some .int)
set_option maxRecDepth 100000 in
theorem ok_X11_take : MOK mX11_take 1 := ⟨memg 769 rfl rfl, memg 72 rfl rfl, ⟨by decide, by decide, by decide +kernel⟩, by decide⟩
set_option maxRecDepth 100000 in
theorem im_X11_take : Cond.instanceMethod mX11_take.1 ∈ lw_good := memg 767 rfl rfl
set_option maxRecDepth 100000 in
theorem se_X11_take : Cond.selects mX11_take.1.cls mX11_take.1 mX11_take.1 ∈ lw_good := memg 768 rfl rfl
abbrev mX11_span : MM := (yX11_span, cX11_span, 3, some .int)
set_option maxRecDepth 100000 in
theorem ok_X11_span : MOK mX11_span 2 := ⟨memg 778 rfl rfl, memg 72 rfl rfl, ⟨by decide, by decide, by decide +kernel⟩, by decide⟩
set_option maxRecDepth 100000 in
theorem im_X11_span : Cond.instanceMethod mX11_span.1 ∈ lw_good := memg 776 rfl rfl
set_option maxRecDepth 100000 in
theorem se_X11_span : Cond.selects mX11_span.1.cls mX11_span.1 mX11_span.1 ∈ lw_good := memg 777 rfl rfl
abbrev mX11_away : MM := (yX11_away, cX11_away, 1, some .boolean)
set_option maxRecDepth 100000 in
theorem ok_X11_away : MOK mX11_away 0 := ⟨memg 786 rfl rfl, memg 72 rfl rfl, ⟨by decide, by decide, by decide +kernel⟩, by decide⟩
set_option maxRecDepth 100000 in
theorem im_X11_away : Cond.instanceMethod mX11_away.1 ∈ lw_good := memg 784 rfl rfl
set_option maxRecDepth 100000 in
theorem se_X11_away : Cond.selects mX11_away.1.cls mX11_away.1 mX11_away.1 ∈ lw_good := memg 785 rfl rfl
abbrev mX11_hold : MM := (yX11_hold, cX11_hold, 3, some .boolean)
set_option maxRecDepth 100000 in
theorem ok_X11_hold : MOK mX11_hold 2 := ⟨memg 790 rfl rfl, memg 72 rfl rfl, ⟨by decide, by decide, by decide +kernel⟩, by decide⟩
set_option maxRecDepth 100000 in
theorem im_X11_hold : Cond.instanceMethod mX11_hold.1 ∈ lw_good := memg 788 rfl rfl
set_option maxRecDepth 100000 in
theorem se_X11_hold : Cond.selects mX11_hold.1.cls mX11_hold.1 mX11_hold.1 ∈ lw_good := memg 789 rfl rfl
abbrev mX11_load : MM := (yX11_load, cX11_load, 5, some .int)
set_option maxRecDepth 100000 in
theorem ok_X11_load : MOK mX11_load 3 := ⟨memg 794 rfl rfl, memg 72 rfl rfl, ⟨by decide, by decide, by decide +kernel⟩, by decide⟩
set_option maxRecDepth 100000 in
theorem im_X11_load : Cond.instanceMethod mX11_load.1 ∈ lw_good := memg 792 rfl rfl
set_option maxRecDepth 100000 in
theorem se_X11_load : Cond.selects mX11_load.1.cls mX11_load.1 mX11_load.1 ∈ lw_good := memg 793 rfl rfl
abbrev mX11_times : MM := (yX11_times, cX11_times, 3, some .int)
set_option maxRecDepth 100000 in
theorem ok_X11_times : MOK mX11_times 2 := ⟨memg 810 rfl rfl, memg 72 rfl rfl, ⟨by decide, by decide, by decide +kernel⟩, by decide⟩
set_option maxRecDepth 100000 in
theorem im_X11_times : Cond.instanceMethod mX11_times.1 ∈ lw_good := memg 808 rfl rfl
set_option maxRecDepth 100000 in
theorem se_X11_times : Cond.selects mX11_times.1.cls mX11_times.1 mX11_times.1 ∈ lw_good := memg 809 rfl rfl
abbrev mX11_factor : MM := (yX11_factor, cX11_factor, 1, some .int)
set_option maxRecDepth 100000 in
theorem ok_X11_factor : MOK mX11_factor 0 := ⟨memg 896 rfl rfl, memg 72 rfl rfl, ⟨by decide, by decide, by decide +kernel⟩, by decide⟩
set_option maxRecDepth 100000 in
theorem im_X11_factor : Cond.instanceMethod mX11_factor.1 ∈ lw_good := memg 894 rfl rfl
set_option maxRecDepth 100000 in
theorem se_X11_factor : Cond.selects mX11_factor.1.cls mX11_factor.1 mX11_factor.1 ∈ lw_good := memg 895 rfl rfl
abbrev mX11_weakest : MM := (yX11_weakest, cX11_weakest, 1, some .int)
set_option maxRecDepth 100000 in
theorem ok_X11_weakest : MOK mX11_weakest 0 := ⟨memg 917 rfl rfl, memg 72 rfl rfl, ⟨by decide, by decide, by decide +kernel⟩, by decide⟩
set_option maxRecDepth 100000 in
theorem im_X11_weakest : Cond.instanceMethod mX11_weakest.1 ∈ lw_good := memg 915 rfl rfl
set_option maxRecDepth 100000 in
theorem se_X11_weakest : Cond.selects mX11_weakest.1.cls mX11_weakest.1 mX11_weakest.1 ∈ lw_good := memg 916 rfl rfl
abbrev mX11_refuse : MM := (yX11_refuse, cX11_refuse, 2, some .int)
set_option maxRecDepth 100000 in
theorem ok_X11_refuse : MOK mX11_refuse 1 := ⟨memg 528 rfl rfl, memg 72 rfl rfl, ⟨by decide, by decide, by decide +kernel⟩, by decide⟩
set_option maxRecDepth 100000 in
theorem im_X11_refuse : Cond.instanceMethod mX11_refuse.1 ∈ lw_good := memg 527 rfl rfl
set_option maxRecDepth 100000 in
theorem se_X11_refuse : Cond.selects mX11_refuse.1.cls mX11_refuse.1 mX11_refuse.1 ∈ lw_good := memg 6 rfl rfl
abbrev mX11_deny : MM := (yX11_deny, cX11_deny, 2, some .boolean)
set_option maxRecDepth 100000 in
theorem ok_X11_deny : MOK mX11_deny 1 := ⟨memg 515 rfl rfl, memg 72 rfl rfl, ⟨by decide, by decide, by decide +kernel⟩, by decide⟩
set_option maxRecDepth 100000 in
theorem im_X11_deny : Cond.instanceMethod mX11_deny.1 ∈ lw_good := memg 514 rfl rfl
set_option maxRecDepth 100000 in
theorem se_X11_deny : Cond.selects mX11_deny.1.cls mX11_deny.1 mX11_deny.1 ∈ lw_good := memg 4 rfl rfl
abbrev mX11_give : MM := (yX11_give, cX11_give, 2, some .int)
set_option maxRecDepth 100000 in
theorem ok_X11_give : MOK mX11_give 1 := ⟨memg 536 rfl rfl, memg 72 rfl rfl, ⟨by decide, by decide, by decide +kernel⟩, by decide⟩
set_option maxRecDepth 100000 in
theorem im_X11_give : Cond.instanceMethod mX11_give.1 ∈ lw_good := memg 535 rfl rfl
set_option maxRecDepth 100000 in
theorem se_X11_give : Cond.selects mX11_give.1.cls mX11_give.1 mX11_give.1 ∈ lw_good := memg 7 rfl rfl
abbrev mX11_allow : MM := (yX11_allow, cX11_allow, 1, some .boolean)
set_option maxRecDepth 100000 in
theorem ok_X11_allow : MOK mX11_allow 0 := ⟨memg 520 rfl rfl, memg 72 rfl rfl, ⟨by decide, by decide, by decide +kernel⟩, by decide⟩
set_option maxRecDepth 100000 in
theorem im_X11_allow : Cond.instanceMethod mX11_allow.1 ∈ lw_good := memg 519 rfl rfl
set_option maxRecDepth 100000 in
theorem se_X11_allow : Cond.selects mX11_allow.1.cls mX11_allow.1 mX11_allow.1 ∈ lw_good := memg 5 rfl rfl
abbrev mX11_giveShare : MM := (yX11_giveShare, cX11_giveShare, 2, some .int)
set_option maxRecDepth 100000 in
theorem ok_X11_giveShare : MOK mX11_giveShare 1 := ⟨memg 612 rfl rfl, memg 72 rfl rfl, ⟨by decide, by decide, by decide +kernel⟩, by decide⟩
set_option maxRecDepth 100000 in
theorem im_X11_giveShare : Cond.instanceMethod mX11_giveShare.1 ∈ lw_good := memg 611 rfl rfl
set_option maxRecDepth 100000 in
theorem se_X11_giveShare : Cond.selects mX11_giveShare.1.cls mX11_giveShare.1 mX11_giveShare.1 ∈ lw_good := memg 10 rfl rfl
abbrev mX11_giveRatio : MM := (yX11_giveRatio, cX11_giveRatio, 2, some .int)
set_option maxRecDepth 100000 in
theorem ok_X11_giveRatio : MOK mX11_giveRatio 1 := ⟨memg 891 rfl rfl, memg 72 rfl rfl, ⟨by decide, by decide, by decide +kernel⟩, by decide⟩
set_option maxRecDepth 100000 in
theorem im_X11_giveRatio : Cond.instanceMethod mX11_giveRatio.1 ∈ lw_good := memg 890 rfl rfl
set_option maxRecDepth 100000 in
theorem se_X11_giveRatio : Cond.selects mX11_giveRatio.1.cls mX11_giveRatio.1 mX11_giveRatio.1 ∈ lw_good := memg 27 rfl rfl
abbrev mX11_isSection : MM := (yX11_isSection, cX11_isSection, 2, some .boolean)
set_option maxRecDepth 100000 in
theorem ok_X11_isSection : MOK mX11_isSection 1 := ⟨memg 508 rfl rfl, memg 72 rfl rfl, ⟨by decide, by decide, by decide +kernel⟩, by decide⟩
set_option maxRecDepth 100000 in
theorem im_X11_isSection : Cond.instanceMethod mX11_isSection.1 ∈ lw_good := memg 507 rfl rfl
set_option maxRecDepth 100000 in
theorem se_X11_isSection : Cond.selects mX11_isSection.1.cls mX11_isSection.1 mX11_isSection.1 ∈ lw_good := memg 3 rfl rfl
abbrev mX11_isRod : MM := (yX11_isRod, cX11_isRod, 3, some .boolean)
set_option maxRecDepth 100000 in
theorem ok_X11_isRod : MOK mX11_isRod 2 := ⟨memg 552 rfl rfl, memg 72 rfl rfl, ⟨by decide, by decide, by decide +kernel⟩, by decide⟩
set_option maxRecDepth 100000 in
theorem im_X11_isRod : Cond.instanceMethod mX11_isRod.1 ∈ lw_good := memg 551 rfl rfl
set_option maxRecDepth 100000 in
theorem se_X11_isRod : Cond.selects mX11_isRod.1.cls mX11_isRod.1 mX11_isRod.1 ∈ lw_good := memg 8 rfl rfl
abbrev mX11_isSpan : MM := (yX11_isSpan, cX11_isSpan, 2, some .boolean)
set_option maxRecDepth 100000 in
theorem ok_X11_isSpan : MOK mX11_isSpan 1 := ⟨memg 798 rfl rfl, memg 72 rfl rfl, ⟨by decide, by decide, by decide +kernel⟩, by decide⟩
set_option maxRecDepth 100000 in
theorem im_X11_isSpan : Cond.instanceMethod mX11_isSpan.1 ∈ lw_good := memg 797 rfl rfl
set_option maxRecDepth 100000 in
theorem se_X11_isSpan : Cond.selects mX11_isSpan.1.cls mX11_isSpan.1 mX11_isSpan.1 ∈ lw_good := memg 23 rfl rfl
abbrev mX11_isFromTo : MM := (yX11_isFromTo, cX11_isFromTo, 3, some .boolean)
set_option maxRecDepth 100000 in
theorem ok_X11_isFromTo : MOK mX11_isFromTo 3 := ⟨memg 511 rfl rfl, memg 72 rfl rfl, ⟨by decide, by decide, by decide +kernel⟩, by decide⟩
set_option maxRecDepth 100000 in
theorem sm_X11_isFromTo : Cond.static mX11_isFromTo.1 ∈ lw_good := memg 510 rfl rfl
abbrev mX11_isNear : MM := (yX11_isNear, cX11_isNear, 1, some .boolean)
set_option maxRecDepth 100000 in
theorem ok_X11_isNear : MOK mX11_isNear 1 := ⟨memg 581 rfl rfl, memg 72 rfl rfl, ⟨by decide, by decide, by decide +kernel⟩, by decide⟩
set_option maxRecDepth 100000 in
theorem sm_X11_isNear : Cond.static mX11_isNear.1 ∈ lw_good := memg 580 rfl rfl
abbrev mX11_walkTo : MM := (yX11_walkTo, cX11_walkTo, 5, some .int)
set_option maxRecDepth 100000 in
theorem ok_X11_walkTo : MOK mX11_walkTo 3 := ⟨memg 578 rfl rfl, memg 72 rfl rfl, ⟨by decide, by decide, by decide +kernel⟩, by decide⟩
set_option maxRecDepth 100000 in
theorem im_X11_walkTo : Cond.instanceMethod mX11_walkTo.1 ∈ lw_good := memg 577 rfl rfl
set_option maxRecDepth 100000 in
theorem se_X11_walkTo : Cond.selects mX11_walkTo.1.cls mX11_walkTo.1 mX11_walkTo.1 ∈ lw_good := memg 9 rfl rfl
abbrev mX11_bears : MM := (yX11_bears, cX11_bears, 4, some .boolean)
set_option maxRecDepth 100000 in
theorem ok_X11_bears : MOK mX11_bears 3 := ⟨memg 663 rfl rfl, memg 72 rfl rfl, ⟨by decide, by decide, by decide +kernel⟩, by decide⟩
set_option maxRecDepth 100000 in
theorem im_X11_bears : Cond.instanceMethod mX11_bears.1 ∈ lw_good := memg 662 rfl rfl
set_option maxRecDepth 100000 in
theorem se_X11_bears : Cond.selects mX11_bears.1.cls mX11_bears.1 mX11_bears.1 ∈ lw_good := memg 13 rfl rfl
abbrev mX11_forgetBests : MM := (yX11_forgetBests, cX11_forgetBests, 2, none)
set_option maxRecDepth 100000 in
theorem ok_X11_forgetBests : MOK mX11_forgetBests 0 := ⟨memg 677 rfl rfl, memg 72 rfl rfl, ⟨by decide, by decide, by decide +kernel⟩, by decide⟩
set_option maxRecDepth 100000 in
theorem im_X11_forgetBests : Cond.instanceMethod mX11_forgetBests.1 ∈ lw_good := memg 676 rfl rfl
set_option maxRecDepth 100000 in
theorem se_X11_forgetBests : Cond.selects mX11_forgetBests.1.cls mX11_forgetBests.1 mX11_forgetBests.1 ∈ lw_good := memg 14 rfl rfl
abbrev mX11_carryOut : MM := (yX11_carryOut, cX11_carryOut, 5, some .int)
set_option maxRecDepth 100000 in
theorem ok_X11_carryOut : MOK mX11_carryOut 1 := ⟨memg 773 rfl rfl, memg 72 rfl rfl, ⟨by decide, by decide, by decide +kernel⟩, by decide⟩
set_option maxRecDepth 100000 in
theorem im_X11_carryOut : Cond.instanceMethod mX11_carryOut.1 ∈ lw_good := memg 772 rfl rfl
set_option maxRecDepth 100000 in
theorem se_X11_carryOut : Cond.selects mX11_carryOut.1.cls mX11_carryOut.1 mX11_carryOut.1 ∈ lw_good := memg 22 rfl rfl
abbrev mX11_commonDivisor : MM := (yX11_commonDivisor, cX11_commonDivisor, 11, some .long)
set_option maxRecDepth 100000 in
theorem ok_X11_commonDivisor : MOK mX11_commonDivisor 2 := ⟨memg 623 rfl rfl, memg 72 rfl rfl, ⟨by decide, by decide, by decide +kernel⟩, by decide⟩
set_option maxRecDepth 100000 in
theorem sm_X11_commonDivisor : Cond.static mX11_commonDivisor.1 ∈ lw_good := memg 622 rfl rfl
abbrev mX12_init : MM := (yX12_init, cX12_init, 1, none)
set_option maxRecDepth 100000 in
theorem ok_X12_init : MOK mX12_init 0 := ⟨memg 922 rfl rfl, memg 84 rfl rfl, ⟨by decide, by decide, by decide +kernel⟩, by decide⟩
set_option maxRecDepth 100000 in
theorem im_X12_init : Cond.instanceMethod mX12_init.1 ∈ lw_good := memg 921 rfl rfl
abbrev mX12_status : MM := (yX12_status, cX12_status, 1, some .int)
set_option maxRecDepth 100000 in
theorem ok_X12_status : MOK mX12_status 0 := ⟨memg 1081 rfl rfl, memg 84 rfl rfl, ⟨by decide, by decide, by decide +kernel⟩, by decide⟩
set_option maxRecDepth 100000 in
theorem im_X12_status : Cond.instanceMethod mX12_status.1 ∈ lw_good := memg 1079 rfl rfl
set_option maxRecDepth 100000 in
theorem se_X12_status : Cond.selects mX12_status.1.cls mX12_status.1 mX12_status.1 ∈ lw_good := memg 1080 rfl rfl
abbrev mX12_is : MM := (yX12_is, cX12_is, 2, some .boolean)
set_option maxRecDepth 100000 in
theorem ok_X12_is : MOK mX12_is 1 := ⟨memg 1096 rfl rfl, memg 84 rfl rfl, ⟨by decide, by decide, by decide +kernel⟩, by decide⟩
set_option maxRecDepth 100000 in
theorem im_X12_is : Cond.instanceMethod mX12_is.1 ∈ lw_good := memg 1095 rfl rfl
set_option maxRecDepth 100000 in
theorem se_X12_is : Cond.selects mX12_is.1.cls mX12_is.1 mX12_is.1 ∈ lw_good := memg 28 rfl rfl
abbrev mX12_refuse : MM := (yX12_refuse, cX12_refuse, 2, some .int)
set_option maxRecDepth 100000 in
theorem ok_X12_refuse : MOK mX12_refuse 1 := ⟨memg 1104 rfl rfl, memg 84 rfl rfl, ⟨by decide, by decide, by decide +kernel⟩, by decide⟩
set_option maxRecDepth 100000 in
theorem im_X12_refuse : Cond.instanceMethod mX12_refuse.1 ∈ lw_good := memg 1103 rfl rfl
set_option maxRecDepth 100000 in
theorem se_X12_refuse : Cond.selects mX12_refuse.1.cls mX12_refuse.1 mX12_refuse.1 ∈ lw_good := memg 29 rfl rfl
abbrev mX12_places : MM := (yX12_places, cX12_places, 2, some .int)
set_option maxRecDepth 100000 in
theorem ok_X12_places : MOK mX12_places 1 := ⟨memg 1195 rfl rfl, memg 84 rfl rfl, ⟨by decide, by decide, by decide +kernel⟩, by decide⟩
set_option maxRecDepth 100000 in
theorem im_X12_places : Cond.instanceMethod mX12_places.1 ∈ lw_good := memg 1194 rfl rfl
set_option maxRecDepth 100000 in
theorem se_X12_places : Cond.selects mX12_places.1.cls mX12_places.1 mX12_places.1 ∈ lw_good := memg 44 rfl rfl
abbrev mX12_sign : MM := (yX12_sign, cX12_sign, 2, some .int)
set_option maxRecDepth 100000 in
theorem ok_X12_sign : MOK mX12_sign 1 := ⟨memg 1227 rfl rfl, memg 84 rfl rfl, ⟨by decide, by decide, by decide +kernel⟩, by decide⟩
set_option maxRecDepth 100000 in
theorem im_X12_sign : Cond.instanceMethod mX12_sign.1 ∈ lw_good := memg 1226 rfl rfl
set_option maxRecDepth 100000 in
theorem se_X12_sign : Cond.selects mX12_sign.1.cls mX12_sign.1 mX12_sign.1 ∈ lw_good := memg 51 rfl rfl
abbrev mX12_room : MM := (yX12_room, cX12_room, 3, some .int)
set_option maxRecDepth 100000 in
theorem ok_X12_room : MOK mX12_room 1 := ⟨memg 1178 rfl rfl, memg 84 rfl rfl, ⟨by decide, by decide, by decide +kernel⟩, by decide⟩
set_option maxRecDepth 100000 in
theorem im_X12_room : Cond.instanceMethod mX12_room.1 ∈ lw_good := memg 1177 rfl rfl
set_option maxRecDepth 100000 in
theorem se_X12_room : Cond.selects mX12_room.1.cls mX12_room.1 mX12_room.1 ∈ lw_good := memg 40 rfl rfl
abbrev mX12_done : MM := (yX12_done, cX12_done, 5, some .int)
set_option maxRecDepth 100000 in
theorem ok_X12_done : MOK mX12_done 3 := ⟨memg 1183 rfl rfl, memg 84 rfl rfl, ⟨by decide, by decide, by decide +kernel⟩, by decide⟩
set_option maxRecDepth 100000 in
theorem im_X12_done : Cond.instanceMethod mX12_done.1 ∈ lw_good := memg 1182 rfl rfl
set_option maxRecDepth 100000 in
theorem se_X12_done : Cond.selects mX12_done.1.cls mX12_done.1 mX12_done.1 ∈ lw_good := memg 41 rfl rfl
abbrev mX12_whole : MM := (yX12_whole, cX12_whole, 6, some .int)
set_option maxRecDepth 100000 in
theorem ok_X12_whole : MOK mX12_whole 1 := ⟨memg 1174 rfl rfl, memg 84 rfl rfl, ⟨by decide, by decide, by decide +kernel⟩, by decide⟩
set_option maxRecDepth 100000 in
theorem im_X12_whole : Cond.instanceMethod mX12_whole.1 ∈ lw_good := memg 1173 rfl rfl
set_option maxRecDepth 100000 in
theorem se_X12_whole : Cond.selects mX12_whole.1.cls mX12_whole.1 mX12_whole.1 ∈ lw_good := memg 39 rfl rfl
abbrev mX12_copy : MM := (yX12_copy, cX12_copy, 5, some .int)
set_option maxRecDepth 100000 in
theorem ok_X12_copy : MOK mX12_copy 1 := ⟨memg 1235 rfl rfl, memg 84 rfl rfl, ⟨by decide, by decide, by decide +kernel⟩, by decide⟩
set_option maxRecDepth 100000 in
theorem im_X12_copy : Cond.instanceMethod mX12_copy.1 ∈ lw_good := memg 1234 rfl rfl
set_option maxRecDepth 100000 in
theorem se_X12_copy : Cond.selects mX12_copy.1.cls mX12_copy.1 mX12_copy.1 ∈ lw_good := memg 53 rfl rfl
abbrev mX12_turned : MM := (yX12_turned, cX12_turned, 3, some .int)
set_option maxRecDepth 100000 in
theorem ok_X12_turned : MOK mX12_turned 1 := ⟨memg 1231 rfl rfl, memg 84 rfl rfl, ⟨by decide, by decide, by decide +kernel⟩, by decide⟩
set_option maxRecDepth 100000 in
theorem im_X12_turned : Cond.instanceMethod mX12_turned.1 ∈ lw_good := memg 1230 rfl rfl
set_option maxRecDepth 100000 in
theorem se_X12_turned : Cond.selects mX12_turned.1.cls mX12_turned.1 mX12_turned.1 ∈ lw_good := memg 52 rfl rfl
abbrev mX12_compareSizes : MM := (yX12_compareSizes, cX12_compareSizes, 5, some .int)
set_option maxRecDepth 100000 in
theorem ok_X12_compareSizes : MOK mX12_compareSizes 2 := ⟨memg 1208 rfl rfl, memg 84 rfl rfl, ⟨by decide, by decide, by decide +kernel⟩, by decide⟩
set_option maxRecDepth 100000 in
theorem im_X12_compareSizes : Cond.instanceMethod mX12_compareSizes.1 ∈ lw_good := memg 1207 rfl rfl
set_option maxRecDepth 100000 in
theorem se_X12_compareSizes : Cond.selects mX12_compareSizes.1.cls mX12_compareSizes.1 mX12_compareSizes.1 ∈ lw_good := memg 47 rfl rfl
abbrev mX12_sum : MM := (yX12_sum, cX12_sum, 11, some .int)
set_option maxRecDepth 100000 in
theorem ok_X12_sum : MOK mX12_sum 2 := ⟨memg 1348 rfl rfl, memg 84 rfl rfl, ⟨by decide, by decide, by decide +kernel⟩, by decide⟩
set_option maxRecDepth 100000 in
theorem im_X12_sum : Cond.instanceMethod mX12_sum.1 ∈ lw_good := memg 1347 rfl rfl
set_option maxRecDepth 100000 in
theorem se_X12_sum : Cond.selects mX12_sum.1.cls mX12_sum.1 mX12_sum.1 ∈ lw_good := memg 67 rfl rfl
abbrev mX12_less : MM := (yX12_less, cX12_less, 3, some .int)
set_option maxRecDepth 100000 in
theorem ok_X12_less : MOK mX12_less 2 := ⟨memg 1344 rfl rfl, memg 84 rfl rfl, ⟨by decide, by decide, by decide +kernel⟩, by decide⟩
set_option maxRecDepth 100000 in
theorem im_X12_less : Cond.instanceMethod mX12_less.1 ∈ lw_good := memg 1343 rfl rfl
set_option maxRecDepth 100000 in
theorem se_X12_less : Cond.selects mX12_less.1.cls mX12_less.1 mX12_less.1 ∈ lw_good := memg 66 rfl rfl
abbrev mX12_product : MM := (yX12_product, cX12_product, 12, some .int)
set_option maxRecDepth 100000 in
theorem ok_X12_product : MOK mX12_product 2 := ⟨memg 1340 rfl rfl, memg 84 rfl rfl, ⟨by decide, by decide, by decide +kernel⟩, by decide⟩
set_option maxRecDepth 100000 in
theorem im_X12_product : Cond.instanceMethod mX12_product.1 ∈ lw_good := memg 1339 rfl rfl
set_option maxRecDepth 100000 in
theorem se_X12_product : Cond.selects mX12_product.1.cls mX12_product.1 mX12_product.1 ∈ lw_good := memg 65 rfl rfl
abbrev mX12_divide : MM := (yX12_divide, cX12_divide, 7, none)
set_option maxRecDepth 100000 in
theorem ok_X12_divide : MOK mX12_divide 2 := ⟨memg 1204 rfl rfl, memg 84 rfl rfl, ⟨by decide, by decide, by decide +kernel⟩, by decide⟩
set_option maxRecDepth 100000 in
theorem im_X12_divide : Cond.instanceMethod mX12_divide.1 ∈ lw_good := memg 1203 rfl rfl
set_option maxRecDepth 100000 in
theorem se_X12_divide : Cond.selects mX12_divide.1.cls mX12_divide.1 mX12_divide.1 ∈ lw_good := memg 46 rfl rfl
abbrev mX12_divideShort : MM := (yX12_divideShort, cX12_divideShort, 7, none)
set_option maxRecDepth 100000 in
theorem ok_X12_divideShort : MOK mX12_divideShort 1 := ⟨memg 1212 rfl rfl, memg 84 rfl rfl, ⟨by decide, by decide, by decide +kernel⟩, by decide⟩
set_option maxRecDepth 100000 in
theorem im_X12_divideShort : Cond.instanceMethod mX12_divideShort.1 ∈ lw_good := memg 1211 rfl rfl
set_option maxRecDepth 100000 in
theorem se_X12_divideShort : Cond.selects mX12_divideShort.1.cls mX12_divideShort.1 mX12_divideShort.1 ∈ lw_good := memg 48 rfl rfl
abbrev mX12_step : MM := (yX12_step, cX12_step, 16, some .int)
set_option maxRecDepth 100000 in
theorem ok_X12_step : MOK mX12_step 2 := ⟨memg 1218 rfl rfl, memg 84 rfl rfl, ⟨by decide, by decide, by decide +kernel⟩, by decide⟩
set_option maxRecDepth 100000 in
theorem im_X12_step : Cond.instanceMethod mX12_step.1 ∈ lw_good := memg 1217 rfl rfl
set_option maxRecDepth 100000 in
theorem se_X12_step : Cond.selects mX12_step.1.cls mX12_step.1 mX12_step.1 ∈ lw_good := memg 49 rfl rfl
abbrev mX12_divided : MM := (yX12_divided, cX12_divided, 5, some .int)
set_option maxRecDepth 100000 in
theorem ok_X12_divided : MOK mX12_divided 2 := ⟨memg 1223 rfl rfl, memg 84 rfl rfl, ⟨by decide, by decide, by decide +kernel⟩, by decide⟩
set_option maxRecDepth 100000 in
theorem im_X12_divided : Cond.instanceMethod mX12_divided.1 ∈ lw_good := memg 1222 rfl rfl
set_option maxRecDepth 100000 in
theorem se_X12_divided : Cond.selects mX12_divided.1.cls mX12_divided.1 mX12_divided.1 ∈ lw_good := memg 50 rfl rfl
abbrev mX12_common : MM := (yX12_common, cX12_common, 10, some .int)
set_option maxRecDepth 100000 in
theorem ok_X12_common : MOK mX12_common 2 := ⟨memg 1191 rfl rfl, memg 84 rfl rfl, ⟨by decide, by decide, by decide +kernel⟩, by decide⟩
set_option maxRecDepth 100000 in
theorem im_X12_common : Cond.instanceMethod mX12_common.1 ∈ lw_good := memg 1190 rfl rfl
set_option maxRecDepth 100000 in
theorem se_X12_common : Cond.selects mX12_common.1.cls mX12_common.1 mX12_common.1 ∈ lw_good := memg 43 rfl rfl
abbrev mX12_put : MM := (yX12_put, cX12_put, 5, none)
set_option maxRecDepth 100000 in
theorem ok_X12_put : MOK mX12_put 2 := ⟨memg 1200 rfl rfl, memg 84 rfl rfl, ⟨by decide, by decide, by decide +kernel⟩, by decide⟩
set_option maxRecDepth 100000 in
theorem im_X12_put : Cond.instanceMethod mX12_put.1 ∈ lw_good := memg 1199 rfl rfl
set_option maxRecDepth 100000 in
theorem se_X12_put : Cond.selects mX12_put.1.cls mX12_put.1 mX12_put.1 ∈ lw_good := memg 45 rfl rfl
abbrev mX12_out : MM := (yX12_out, cX12_out, 2, some .int)
set_option maxRecDepth 100000 in
theorem ok_X12_out : MOK mX12_out 1 := ⟨memg 1085 rfl rfl, memg 84 rfl rfl, ⟨by decide, by decide, by decide +kernel⟩, by decide⟩
set_option maxRecDepth 100000 in
theorem im_X12_out : Cond.instanceMethod mX12_out.1 ∈ lw_good := memg 1083 rfl rfl
set_option maxRecDepth 100000 in
theorem se_X12_out : Cond.selects mX12_out.1.cls mX12_out.1 mX12_out.1 ∈ lw_good := memg 1084 rfl rfl
abbrev mX12_tells0 : MM := (yX12_tells0, cX12_tells0, 2, none)
set_option maxRecDepth 100000 in
theorem ok_X12_tells0 : MOK mX12_tells0 1 := ⟨memg 1243 rfl rfl, memg 84 rfl rfl, ⟨by decide, by decide, by decide +kernel⟩, by decide⟩
set_option maxRecDepth 100000 in
theorem im_X12_tells0 : Cond.instanceMethod mX12_tells0.1 ∈ lw_good := memg 1242 rfl rfl
set_option maxRecDepth 100000 in
theorem se_X12_tells0 : Cond.selects mX12_tells0.1.cls mX12_tells0.1 mX12_tells0.1 ∈ lw_good := memg 55 rfl rfl
abbrev mX12_tellsNumber : MM := (yX12_tellsNumber, cX12_tellsNumber, 8, none)
set_option maxRecDepth 100000 in
theorem ok_X12_tellsNumber : MOK mX12_tellsNumber 1 := ⟨memg 1239 rfl rfl, memg 84 rfl rfl, ⟨by decide, by decide, by decide +kernel⟩, by decide⟩
set_option maxRecDepth 100000 in
theorem im_X12_tellsNumber : Cond.instanceMethod mX12_tellsNumber.1 ∈ lw_good := memg 1238 rfl rfl
set_option maxRecDepth 100000 in
theorem se_X12_tellsNumber : Cond.selects mX12_tellsNumber.1.cls mX12_tellsNumber.1 mX12_tellsNumber.1 ∈ lw_good := memg 54 rfl rfl
abbrev mX12_tells : MM := (yX12_tells, cX12_tells, 6, some .int)
set_option maxRecDepth 100000 in
theorem ok_X12_tells : MOK mX12_tells 2 := ⟨memg 1187 rfl rfl, memg 84 rfl rfl, ⟨by decide, by decide, by decide +kernel⟩, by decide⟩
set_option maxRecDepth 100000 in
theorem im_X12_tells : Cond.instanceMethod mX12_tells.1 ∈ lw_good := memg 1186 rfl rfl
set_option maxRecDepth 100000 in
theorem se_X12_tells : Cond.selects mX12_tells.1.cls mX12_tells.1 mX12_tells.1 ∈ lw_good := memg 42 rfl rfl
abbrev mX12_isSection : MM := (yX12_isSection, cX12_isSection, 1, some .boolean)
set_option maxRecDepth 100000 in
theorem ok_X12_isSection : MOK mX12_isSection 1 := ⟨memg 1092 rfl rfl, memg 84 rfl rfl, ⟨by decide, by decide, by decide +kernel⟩, by decide⟩
set_option maxRecDepth 100000 in
theorem sm_X12_isSection : Cond.static mX12_isSection.1 ∈ lw_good := memg 1091 rfl rfl
abbrev mX12_stone : MM := (yX12_stone, cX12_stone, 5, some .boolean)
set_option maxRecDepth 100000 in
theorem ok_X12_stone : MOK mX12_stone 3 := ⟨memg 1089 rfl rfl, memg 84 rfl rfl, ⟨by decide, by decide, by decide +kernel⟩, by decide⟩
set_option maxRecDepth 100000 in
theorem im_X12_stone : Cond.instanceMethod mX12_stone.1 ∈ lw_good := memg 1087 rfl rfl
set_option maxRecDepth 100000 in
theorem se_X12_stone : Cond.selects mX12_stone.1.cls mX12_stone.1 mX12_stone.1 ∈ lw_good := memg 1088 rfl rfl
abbrev mX12_band : MM := (yX12_band, cX12_band, 6, some .int)
set_option maxRecDepth 100000 in
theorem ok_X12_band : MOK mX12_band 4 := ⟨memg 1100 rfl rfl, memg 84 rfl rfl, ⟨by decide, by decide, by decide +kernel⟩, by decide⟩
set_option maxRecDepth 100000 in
theorem im_X12_band : Cond.instanceMethod mX12_band.1 ∈ lw_good := memg 1098 rfl rfl
set_option maxRecDepth 100000 in
theorem se_X12_band : Cond.selects mX12_band.1.cls mX12_band.1 mX12_band.1 ∈ lw_good := memg 1099 rfl rfl
abbrev mX12_rod : MM := (yX12_rod, cX12_rod, 4, some .int)
set_option maxRecDepth 100000 in
theorem ok_X12_rod : MOK mX12_rod 3 := ⟨memg 1108 rfl rfl, memg 84 rfl rfl, ⟨by decide, by decide, by decide +kernel⟩, by decide⟩
set_option maxRecDepth 100000 in
theorem im_X12_rod : Cond.instanceMethod mX12_rod.1 ∈ lw_good := memg 1106 rfl rfl
set_option maxRecDepth 100000 in
theorem se_X12_rod : Cond.selects mX12_rod.1.cls mX12_rod.1 mX12_rod.1 ∈ lw_good := memg 1107 rfl rfl
abbrev mX12_isRod : MM := (yX12_isRod, cX12_isRod, 3, some .boolean)
set_option maxRecDepth 100000 in
theorem ok_X12_isRod : MOK mX12_isRod 2 := ⟨memg 1116 rfl rfl, memg 84 rfl rfl, ⟨by decide, by decide, by decide +kernel⟩, by decide⟩
set_option maxRecDepth 100000 in
theorem im_X12_isRod : Cond.instanceMethod mX12_isRod.1 ∈ lw_good := memg 1115 rfl rfl
set_option maxRecDepth 100000 in
theorem se_X12_isRod : Cond.selects mX12_isRod.1.cls mX12_isRod.1 mX12_isRod.1 ∈ lw_good := memg 30 rfl rfl
abbrev mX12_change : MM := (yX12_change, cX12_change, 4, some .boolean)
set_option maxRecDepth 100000 in
theorem ok_X12_change : MOK mX12_change 3 := ⟨memg 1112 rfl rfl, memg 84 rfl rfl, ⟨by decide, by decide, by decide +kernel⟩, by decide⟩
set_option maxRecDepth 100000 in
theorem im_X12_change : Cond.instanceMethod mX12_change.1 ∈ lw_good := memg 1110 rfl rfl
set_option maxRecDepth 100000 in
theorem se_X12_change : Cond.selects mX12_change.1.cls mX12_change.1 mX12_change.1 ∈ lw_good := memg 1111 rfl rfl
abbrev mX12_asTold : MM := (yX12_asTold, cX12_asTold, 3, none)
set_option maxRecDepth 100000 in
theorem ok_X12_asTold : MOK mX12_asTold 1 := ⟨memg 1124 rfl rfl, memg 84 rfl rfl, ⟨by decide, by decide, by decide +kernel⟩, by decide⟩
set_option maxRecDepth 100000 in
theorem im_X12_asTold : Cond.instanceMethod mX12_asTold.1 ∈ lw_good := memg 1123 rfl rfl
set_option maxRecDepth 100000 in
theorem se_X12_asTold : Cond.selects mX12_asTold.1.cls mX12_asTold.1 mX12_asTold.1 ∈ lw_good := memg 31 rfl rfl
abbrev mX12_pulls : MM := (yX12_pulls, cX12_pulls, 3, some .int)
set_option maxRecDepth 100000 in
theorem ok_X12_pulls : MOK mX12_pulls 0 := ⟨memg 1132 rfl rfl, memg 84 rfl rfl, ⟨by decide, by decide, by decide +kernel⟩, by decide⟩
set_option maxRecDepth 100000 in
theorem im_X12_pulls : Cond.instanceMethod mX12_pulls.1 ∈ lw_good := memg 1131 rfl rfl
set_option maxRecDepth 100000 in
theorem se_X12_pulls : Cond.selects mX12_pulls.1.cls mX12_pulls.1 mX12_pulls.1 ∈ lw_good := memg 33 rfl rfl
abbrev mX12_greatest : MM := (yX12_greatest, cX12_greatest, 2, some .int)
set_option maxRecDepth 100000 in
theorem ok_X12_greatest : MOK mX12_greatest 1 := ⟨memg 1128 rfl rfl, memg 84 rfl rfl, ⟨by decide, by decide, by decide +kernel⟩, by decide⟩
set_option maxRecDepth 100000 in
theorem im_X12_greatest : Cond.instanceMethod mX12_greatest.1 ∈ lw_good := memg 1127 rfl rfl
set_option maxRecDepth 100000 in
theorem se_X12_greatest : Cond.selects mX12_greatest.1.cls mX12_greatest.1 mX12_greatest.1 ∈ lw_good := memg 32 rfl rfl
abbrev mX12_told : MM := (yX12_told, cX12_told, 3, some .int)
set_option maxRecDepth 100000 in
theorem ok_X12_told : MOK mX12_told 2 := ⟨memg 1120 rfl rfl, memg 84 rfl rfl, ⟨by decide, by decide, by decide +kernel⟩, by decide⟩
set_option maxRecDepth 100000 in
theorem im_X12_told : Cond.instanceMethod mX12_told.1 ∈ lw_good := memg 1118 rfl rfl
set_option maxRecDepth 100000 in
theorem se_X12_told : Cond.selects mX12_told.1.cls mX12_told.1 mX12_told.1 ∈ lw_good := memg 1119 rfl rfl
abbrev mX12_strength : MM := (yX12_strength, cX12_strength, 3, some .int)
set_option maxRecDepth 100000 in
theorem ok_X12_strength : MOK mX12_strength 2 := ⟨memg 1136 rfl rfl, memg 84 rfl rfl, ⟨by decide, by decide, by decide +kernel⟩, by decide⟩
set_option maxRecDepth 100000 in
theorem im_X12_strength : Cond.instanceMethod mX12_strength.1 ∈ lw_good := memg 1134 rfl rfl
set_option maxRecDepth 100000 in
theorem se_X12_strength : Cond.selects mX12_strength.1.cls mX12_strength.1 mX12_strength.1 ∈ lw_good := memg 1135 rfl rfl
abbrev mX12_width : MM := (yX12_width, cX12_width, 3, some .int)
set_option maxRecDepth 100000 in
theorem ok_X12_width : MOK mX12_width 2 := ⟨memg 1140 rfl rfl, memg 84 rfl rfl, ⟨by decide, by decide, by decide +kernel⟩, by decide⟩
set_option maxRecDepth 100000 in
theorem im_X12_width : Cond.instanceMethod mX12_width.1 ∈ lw_good := memg 1138 rfl rfl
set_option maxRecDepth 100000 in
theorem se_X12_width : Cond.selects mX12_width.1.cls mX12_width.1 mX12_width.1 ∈ lw_good := memg 1139 rfl rfl
abbrev mX12_at : MM := (yX12_at, cX12_at, 6, some .long)
set_option maxRecDepth 100000 in
theorem ok_X12_at : MOK mX12_at 2 := ⟨memg 1166 rfl rfl, memg 84 rfl rfl, ⟨by decide, by decide, by decide +kernel⟩, by decide⟩
set_option maxRecDepth 100000 in
theorem im_X12_at : Cond.instanceMethod mX12_at.1 ∈ lw_good := memg 1165 rfl rfl
set_option maxRecDepth 100000 in
theorem se_X12_at : Cond.selects mX12_at.1.cls mX12_at.1 mX12_at.1 ∈ lw_good := memg 37 rfl rfl
abbrev mX12_go : MM := (yX12_go, cX12_go, 20, none)
set_option maxRecDepth 100000 in
theorem ok_X12_go : MOK mX12_go 3 := ⟨memg 1161 rfl rfl, memg 84 rfl rfl, ⟨by decide, by decide, by decide +kernel⟩, by decide⟩
set_option maxRecDepth 100000 in
theorem im_X12_go : Cond.instanceMethod mX12_go.1 ∈ lw_good := memg 1160 rfl rfl
set_option maxRecDepth 100000 in
theorem se_X12_go : Cond.selects mX12_go.1.cls mX12_go.1 mX12_go.1 ∈ lw_good := memg 36 rfl rfl
abbrev mX12_found : MM := (yX12_found, cX12_found, 9, none)
set_option maxRecDepth 100000 in
theorem ok_X12_found : MOK mX12_found 4 := ⟨memg 1170 rfl rfl, memg 84 rfl rfl, ⟨by decide, by decide, by decide +kernel⟩, by decide⟩
set_option maxRecDepth 100000 in
theorem im_X12_found : Cond.instanceMethod mX12_found.1 ∈ lw_good := memg 1169 rfl rfl
set_option maxRecDepth 100000 in
theorem se_X12_found : Cond.selects mX12_found.1.cls mX12_found.1 mX12_found.1 ∈ lw_good := memg 38 rfl rfl
abbrev mX12_isPush : MM := (yX12_isPush, cX12_isPush, 3, some .boolean)
set_option maxRecDepth 100000 in
theorem ok_X12_isPush : MOK mX12_isPush 2 := ⟨memg 1157 rfl rfl, memg 84 rfl rfl, ⟨by decide, by decide, by decide +kernel⟩, by decide⟩
set_option maxRecDepth 100000 in
theorem im_X12_isPush : Cond.instanceMethod mX12_isPush.1 ∈ lw_good := memg 1156 rfl rfl
set_option maxRecDepth 100000 in
theorem se_X12_isPush : Cond.selects mX12_isPush.1.cls mX12_isPush.1 mX12_isPush.1 ∈ lw_good := memg 35 rfl rfl
abbrev mX12_isNumber : MM := (yX12_isNumber, cX12_isNumber, 1, some .boolean)
set_option maxRecDepth 100000 in
theorem ok_X12_isNumber : MOK mX12_isNumber 1 := ⟨memg 1151 rfl rfl, memg 84 rfl rfl, ⟨by decide, by decide, by decide +kernel⟩, by decide⟩
set_option maxRecDepth 100000 in
theorem sm_X12_isNumber : Cond.static mX12_isNumber.1 ∈ lw_good := memg 1150 rfl rfl
abbrev mX12_wrong : MM := (yX12_wrong, cX12_wrong, 3, some .int)
set_option maxRecDepth 100000 in
theorem ok_X12_wrong : MOK mX12_wrong 2 := ⟨memg 1148 rfl rfl, memg 84 rfl rfl, ⟨by decide, by decide, by decide +kernel⟩, by decide⟩
set_option maxRecDepth 100000 in
theorem im_X12_wrong : Cond.instanceMethod mX12_wrong.1 ∈ lw_good := memg 1147 rfl rfl
set_option maxRecDepth 100000 in
theorem se_X12_wrong : Cond.selects mX12_wrong.1.cls mX12_wrong.1 mX12_wrong.1 ∈ lw_good := memg 34 rfl rfl
abbrev mX12_bend : MM := (yX12_bend, cX12_bend, 5, some .int)
set_option maxRecDepth 100000 in
theorem ok_X12_bend : MOK mX12_bend 3 := ⟨memg 1144 rfl rfl, memg 84 rfl rfl, ⟨by decide, by decide, by decide +kernel⟩, by decide⟩
set_option maxRecDepth 100000 in
theorem im_X12_bend : Cond.instanceMethod mX12_bend.1 ∈ lw_good := memg 1142 rfl rfl
set_option maxRecDepth 100000 in
theorem se_X12_bend : Cond.selects mX12_bend.1.cls mX12_bend.1 mX12_bend.1 ∈ lw_good := memg 1143 rfl rfl
abbrev mX12_cut : MM := (yX12_cut, cX12_cut, 5, some .int)
set_option maxRecDepth 100000 in
theorem ok_X12_cut : MOK mX12_cut 3 := ⟨memg 1248 rfl rfl, memg 84 rfl rfl, ⟨by decide, by decide, by decide +kernel⟩, by decide⟩
set_option maxRecDepth 100000 in
theorem im_X12_cut : Cond.instanceMethod mX12_cut.1 ∈ lw_good := memg 1246 rfl rfl
set_option maxRecDepth 100000 in
theorem se_X12_cut : Cond.selects mX12_cut.1.cls mX12_cut.1 mX12_cut.1 ∈ lw_good := memg 1247 rfl rfl
abbrev mX12_bears : MM := (yX12_bears, cX12_bears, 4, some .boolean)
set_option maxRecDepth 100000 in
theorem ok_X12_bears : MOK mX12_bears 3 := ⟨memg 1256 rfl rfl, memg 84 rfl rfl, ⟨by decide, by decide, by decide +kernel⟩, by decide⟩
set_option maxRecDepth 100000 in
theorem im_X12_bears : Cond.instanceMethod mX12_bears.1 ∈ lw_good := memg 1255 rfl rfl
set_option maxRecDepth 100000 in
theorem se_X12_bears : Cond.selects mX12_bears.1.cls mX12_bears.1 mX12_bears.1 ∈ lw_good := memg 56 rfl rfl
abbrev mX12_borne : MM := (yX12_borne, cX12_borne, 4, some .int)
set_option maxRecDepth 100000 in
theorem ok_X12_borne : MOK mX12_borne 3 := ⟨memg 1252 rfl rfl, memg 84 rfl rfl, ⟨by decide, by decide, by decide +kernel⟩, by decide⟩
set_option maxRecDepth 100000 in
theorem im_X12_borne : Cond.instanceMethod mX12_borne.1 ∈ lw_good := memg 1250 rfl rfl
set_option maxRecDepth 100000 in
theorem se_X12_borne : Cond.selects mX12_borne.1.cls mX12_borne.1 mX12_borne.1 ∈ lw_good := memg 1251 rfl rfl
abbrev mX12_pair : MM := (yX12_pair, cX12_pair, 3, some .int)
set_option maxRecDepth 100000 in
theorem ok_X12_pair : MOK mX12_pair 2 := ⟨memg 1260 rfl rfl, memg 84 rfl rfl, ⟨by decide, by decide, by decide +kernel⟩, by decide⟩
set_option maxRecDepth 100000 in
theorem im_X12_pair : Cond.instanceMethod mX12_pair.1 ∈ lw_good := memg 1258 rfl rfl
set_option maxRecDepth 100000 in
theorem se_X12_pair : Cond.selects mX12_pair.1.cls mX12_pair.1 mX12_pair.1 ∈ lw_good := memg 1259 rfl rfl
abbrev mX12_clear : MM := (yX12_clear, cX12_clear, 1, some .boolean)
set_option maxRecDepth 100000 in
theorem ok_X12_clear : MOK mX12_clear 0 := ⟨memg 1264 rfl rfl, memg 84 rfl rfl, ⟨by decide, by decide, by decide +kernel⟩, by decide⟩
set_option maxRecDepth 100000 in
theorem im_X12_clear : Cond.instanceMethod mX12_clear.1 ∈ lw_good := memg 1262 rfl rfl
set_option maxRecDepth 100000 in
theorem se_X12_clear : Cond.selects mX12_clear.1.cls mX12_clear.1 mX12_clear.1 ∈ lw_good := memg 1263 rfl rfl
abbrev mX12_fails : MM := (yX12_fails, cX12_fails, 3, some .int)
set_option maxRecDepth 100000 in
theorem ok_X12_fails : MOK mX12_fails 1 := ⟨memg 1272 rfl rfl, memg 84 rfl rfl, ⟨by decide, by decide, by decide +kernel⟩, by decide⟩
set_option maxRecDepth 100000 in
theorem im_X12_fails : Cond.instanceMethod mX12_fails.1 ∈ lw_good := memg 1271 rfl rfl
set_option maxRecDepth 100000 in
theorem se_X12_fails : Cond.selects mX12_fails.1.cls mX12_fails.1 mX12_fails.1 ∈ lw_good := memg 57 rfl rfl
abbrev mX12_safe : MM := (yX12_safe, cX12_safe, 2, some .int)
set_option maxRecDepth 100000 in
theorem ok_X12_safe : MOK mX12_safe 1 := ⟨memg 1268 rfl rfl, memg 84 rfl rfl, ⟨by decide, by decide, by decide +kernel⟩, by decide⟩
set_option maxRecDepth 100000 in
theorem im_X12_safe : Cond.instanceMethod mX12_safe.1 ∈ lw_good := memg 1266 rfl rfl
set_option maxRecDepth 100000 in
theorem se_X12_safe : Cond.selects mX12_safe.1.cls mX12_safe.1 mX12_safe.1 ∈ lw_good := memg 1267 rfl rfl
abbrev mX12_size : MM := (yX12_size, cX12_size, 3, some .int)
set_option maxRecDepth 100000 in
theorem ok_X12_size : MOK mX12_size 2 := ⟨memg 1276 rfl rfl, memg 84 rfl rfl, ⟨by decide, by decide, by decide +kernel⟩, by decide⟩
set_option maxRecDepth 100000 in
theorem im_X12_size : Cond.instanceMethod mX12_size.1 ∈ lw_good := memg 1274 rfl rfl
set_option maxRecDepth 100000 in
theorem se_X12_size : Cond.selects mX12_size.1.cls mX12_size.1 mX12_size.1 ∈ lw_good := memg 1275 rfl rfl
abbrev mX12_choose : MM := (yX12_choose, cX12_choose, 9, some .boolean)
set_option maxRecDepth 100000 in
theorem ok_X12_choose : MOK mX12_choose 1 := ⟨memg 1284 rfl rfl, memg 84 rfl rfl, ⟨by decide, by decide, by decide +kernel⟩, by decide⟩
set_option maxRecDepth 100000 in
theorem im_X12_choose : Cond.instanceMethod mX12_choose.1 ∈ lw_good := memg 1283 rfl rfl
set_option maxRecDepth 100000 in
theorem se_X12_choose : Cond.selects mX12_choose.1.cls mX12_choose.1 mX12_choose.1 ∈ lw_good := memg 58 rfl rfl
abbrev mX12_best : MM := (yX12_best, cX12_best, 2, some .int)
set_option maxRecDepth 100000 in
theorem ok_X12_best : MOK mX12_best 1 := ⟨memg 1280 rfl rfl, memg 84 rfl rfl, ⟨by decide, by decide, by decide +kernel⟩, by decide⟩
set_option maxRecDepth 100000 in
theorem im_X12_best : Cond.instanceMethod mX12_best.1 ∈ lw_good := memg 1278 rfl rfl
set_option maxRecDepth 100000 in
theorem se_X12_best : Cond.selects mX12_best.1.cls mX12_best.1 mX12_best.1 ∈ lw_good := memg 1279 rfl rfl
abbrev mX12_chosen : MM := (yX12_chosen, cX12_chosen, 3, some .int)
set_option maxRecDepth 100000 in
theorem ok_X12_chosen : MOK mX12_chosen 2 := ⟨memg 1288 rfl rfl, memg 84 rfl rfl, ⟨by decide, by decide, by decide +kernel⟩, by decide⟩
set_option maxRecDepth 100000 in
theorem im_X12_chosen : Cond.instanceMethod mX12_chosen.1 ∈ lw_good := memg 1286 rfl rfl
set_option maxRecDepth 100000 in
theorem se_X12_chosen : Cond.selects mX12_chosen.1.cls mX12_chosen.1 mX12_chosen.1 ∈ lw_good := memg 1287 rfl rfl
abbrev mX12_take : MM := (yX12_take, cX12_take, 5, some .int)
set_option maxRecDepth 100000 in
theorem ok_X12_take : MOK mX12_take 1 := ⟨memg 1292 rfl rfl, memg 84 rfl rfl, ⟨by decide, by decide, by decide +kernel⟩, by decide⟩
set_option maxRecDepth 100000 in
theorem im_X12_take : Cond.instanceMethod mX12_take.1 ∈ lw_good := memg 1290 rfl rfl
set_option maxRecDepth 100000 in
theorem se_X12_take : Cond.selects mX12_take.1.cls mX12_take.1 mX12_take.1 ∈ lw_good := memg 1291 rfl rfl
abbrev mX12_span : MM := (yX12_span, cX12_span, 3, some .int)
set_option maxRecDepth 100000 in
theorem ok_X12_span : MOK mX12_span 2 := ⟨memg 1296 rfl rfl, memg 84 rfl rfl, ⟨by decide, by decide, by decide +kernel⟩, by decide⟩
set_option maxRecDepth 100000 in
theorem im_X12_span : Cond.instanceMethod mX12_span.1 ∈ lw_good := memg 1294 rfl rfl
set_option maxRecDepth 100000 in
theorem se_X12_span : Cond.selects mX12_span.1.cls mX12_span.1 mX12_span.1 ∈ lw_good := memg 1295 rfl rfl
abbrev mX12_away : MM := (yX12_away, cX12_away, 1, some .boolean)
set_option maxRecDepth 100000 in
theorem ok_X12_away : MOK mX12_away 0 := ⟨memg 1300 rfl rfl, memg 84 rfl rfl, ⟨by decide, by decide, by decide +kernel⟩, by decide⟩
set_option maxRecDepth 100000 in
theorem im_X12_away : Cond.instanceMethod mX12_away.1 ∈ lw_good := memg 1298 rfl rfl
set_option maxRecDepth 100000 in
theorem se_X12_away : Cond.selects mX12_away.1.cls mX12_away.1 mX12_away.1 ∈ lw_good := memg 1299 rfl rfl
abbrev mX12_hold : MM := (yX12_hold, cX12_hold, 3, some .boolean)
set_option maxRecDepth 100000 in
theorem ok_X12_hold : MOK mX12_hold 2 := ⟨memg 1304 rfl rfl, memg 84 rfl rfl, ⟨by decide, by decide, by decide +kernel⟩, by decide⟩
set_option maxRecDepth 100000 in
theorem im_X12_hold : Cond.instanceMethod mX12_hold.1 ∈ lw_good := memg 1302 rfl rfl
set_option maxRecDepth 100000 in
theorem se_X12_hold : Cond.selects mX12_hold.1.cls mX12_hold.1 mX12_hold.1 ∈ lw_good := memg 1303 rfl rfl
abbrev mX12_isSpan : MM := (yX12_isSpan, cX12_isSpan, 2, some .boolean)
set_option maxRecDepth 100000 in
theorem ok_X12_isSpan : MOK mX12_isSpan 1 := ⟨memg 1312 rfl rfl, memg 84 rfl rfl, ⟨by decide, by decide, by decide +kernel⟩, by decide⟩
set_option maxRecDepth 100000 in
theorem im_X12_isSpan : Cond.instanceMethod mX12_isSpan.1 ∈ lw_good := memg 1311 rfl rfl
set_option maxRecDepth 100000 in
theorem se_X12_isSpan : Cond.selects mX12_isSpan.1.cls mX12_isSpan.1 mX12_isSpan.1 ∈ lw_good := memg 59 rfl rfl
abbrev mX12_load : MM := (yX12_load, cX12_load, 5, some .int)
set_option maxRecDepth 100000 in
theorem ok_X12_load : MOK mX12_load 3 := ⟨memg 1308 rfl rfl, memg 84 rfl rfl, ⟨by decide, by decide, by decide +kernel⟩, by decide⟩
set_option maxRecDepth 100000 in
theorem im_X12_load : Cond.instanceMethod mX12_load.1 ∈ lw_good := memg 1306 rfl rfl
set_option maxRecDepth 100000 in
theorem se_X12_load : Cond.selects mX12_load.1.cls mX12_load.1 mX12_load.1 ∈ lw_good := memg 1307 rfl rfl
abbrev mX12_strengthOf : MM := (yX12_strengthOf, cX12_strengthOf, 4, none)
set_option maxRecDepth 100000 in
theorem ok_X12_strengthOf : MOK mX12_strengthOf 2 := ⟨memg 1328 rfl rfl, memg 84 rfl rfl, ⟨by decide, by decide, by decide +kernel⟩, by decide⟩
set_option maxRecDepth 100000 in
theorem im_X12_strengthOf : Cond.instanceMethod mX12_strengthOf.1 ∈ lw_good := memg 1327 rfl rfl
set_option maxRecDepth 100000 in
theorem se_X12_strengthOf : Cond.selects mX12_strengthOf.1.cls mX12_strengthOf.1 mX12_strengthOf.1 ∈ lw_good := memg 62 rfl rfl
abbrev mX12_hogOf : MM := (yX12_hogOf, cX12_hogOf, 8, none)
set_option maxRecDepth 100000 in
theorem ok_X12_hogOf : MOK mX12_hogOf 1 := ⟨memg 1332 rfl rfl, memg 84 rfl rfl, ⟨by decide, by decide, by decide +kernel⟩, by decide⟩
set_option maxRecDepth 100000 in
theorem im_X12_hogOf : Cond.instanceMethod mX12_hogOf.1 ∈ lw_good := memg 1331 rfl rfl
set_option maxRecDepth 100000 in
theorem se_X12_hogOf : Cond.selects mX12_hogOf.1.cls mX12_hogOf.1 mX12_hogOf.1 ∈ lw_good := memg 63 rfl rfl
abbrev mX12_less3 : MM := (yX12_less3, cX12_less3, 9, some .boolean)
set_option maxRecDepth 100000 in
theorem ok_X12_less3 : MOK mX12_less3 4 := ⟨memg 1336 rfl rfl, memg 84 rfl rfl, ⟨by decide, by decide, by decide +kernel⟩, by decide⟩
set_option maxRecDepth 100000 in
theorem im_X12_less3 : Cond.instanceMethod mX12_less3.1 ∈ lw_good := memg 1335 rfl rfl
set_option maxRecDepth 100000 in
theorem se_X12_less3 : Cond.selects mX12_less3.1.cls mX12_less3.1 mX12_less3.1 ∈ lw_good := memg 64 rfl rfl
abbrev mX12_gather : MM := (yX12_gather, cX12_gather, 7, none)
set_option maxRecDepth 100000 in
theorem ok_X12_gather : MOK mX12_gather 2 := ⟨memg 1324 rfl rfl, memg 84 rfl rfl, ⟨by decide, by decide, by decide +kernel⟩, by decide⟩
set_option maxRecDepth 100000 in
theorem im_X12_gather : Cond.instanceMethod mX12_gather.1 ∈ lw_good := memg 1323 rfl rfl
set_option maxRecDepth 100000 in
theorem se_X12_gather : Cond.selects mX12_gather.1.cls mX12_gather.1 mX12_gather.1 ∈ lw_good := memg 61 rfl rfl
abbrev mX12_timesOf : MM := (yX12_timesOf, cX12_timesOf, 9, none)
set_option maxRecDepth 100000 in
theorem ok_X12_timesOf : MOK mX12_timesOf 2 := ⟨memg 1320 rfl rfl, memg 84 rfl rfl, ⟨by decide, by decide, by decide +kernel⟩, by decide⟩
set_option maxRecDepth 100000 in
theorem im_X12_timesOf : Cond.instanceMethod mX12_timesOf.1 ∈ lw_good := memg 1319 rfl rfl
set_option maxRecDepth 100000 in
theorem se_X12_timesOf : Cond.selects mX12_timesOf.1.cls mX12_timesOf.1 mX12_timesOf.1 ∈ lw_good := memg 60 rfl rfl
abbrev mX12_times : MM := (yX12_times, cX12_times, 3, some .int)
set_option maxRecDepth 100000 in
theorem ok_X12_times : MOK mX12_times 2 := ⟨memg 1316 rfl rfl, memg 84 rfl rfl, ⟨by decide, by decide, by decide +kernel⟩, by decide⟩
set_option maxRecDepth 100000 in
theorem im_X12_times : Cond.instanceMethod mX12_times.1 ∈ lw_good := memg 1314 rfl rfl
set_option maxRecDepth 100000 in
theorem se_X12_times : Cond.selects mX12_times.1.cls mX12_times.1 mX12_times.1 ∈ lw_good := memg 1315 rfl rfl
abbrev mX12_keep : MM := (yX12_keep, cX12_keep, 4, none)
set_option maxRecDepth 100000 in
theorem ok_X12_keep : MOK mX12_keep 2 := ⟨memg 1364 rfl rfl, memg 84 rfl rfl, ⟨by decide, by decide, by decide +kernel⟩, by decide⟩
set_option maxRecDepth 100000 in
theorem im_X12_keep : Cond.instanceMethod mX12_keep.1 ∈ lw_good := memg 1363 rfl rfl
set_option maxRecDepth 100000 in
theorem se_X12_keep : Cond.selects mX12_keep.1.cls mX12_keep.1 mX12_keep.1 ∈ lw_good := memg 70 rfl rfl
abbrev mX12_held : MM := (yX12_held, cX12_held, 5, some .int)
set_option maxRecDepth 100000 in
theorem ok_X12_held : MOK mX12_held 1 := ⟨memg 1360 rfl rfl, memg 84 rfl rfl, ⟨by decide, by decide, by decide +kernel⟩, by decide⟩
set_option maxRecDepth 100000 in
theorem im_X12_held : Cond.instanceMethod mX12_held.1 ∈ lw_good := memg 1359 rfl rfl
set_option maxRecDepth 100000 in
theorem se_X12_held : Cond.selects mX12_held.1.cls mX12_held.1 mX12_held.1 ∈ lw_good := memg 69 rfl rfl
abbrev mX12_finds : MM := (yX12_finds, cX12_finds, 3, some .boolean)
set_option maxRecDepth 100000 in
theorem ok_X12_finds : MOK mX12_finds 0 := ⟨memg 1356 rfl rfl, memg 84 rfl rfl, ⟨by decide, by decide, by decide +kernel⟩, by decide⟩
set_option maxRecDepth 100000 in
theorem im_X12_finds : Cond.instanceMethod mX12_finds.1 ∈ lw_good := memg 1355 rfl rfl
set_option maxRecDepth 100000 in
theorem se_X12_finds : Cond.selects mX12_finds.1.cls mX12_finds.1 mX12_finds.1 ∈ lw_good := memg 68 rfl rfl
abbrev mX12_factor : MM := (yX12_factor, cX12_factor, 1, some .int)
set_option maxRecDepth 100000 in
theorem ok_X12_factor : MOK mX12_factor 0 := ⟨memg 1352 rfl rfl, memg 84 rfl rfl, ⟨by decide, by decide, by decide +kernel⟩, by decide⟩
set_option maxRecDepth 100000 in
theorem im_X12_factor : Cond.instanceMethod mX12_factor.1 ∈ lw_good := memg 1350 rfl rfl
set_option maxRecDepth 100000 in
theorem se_X12_factor : Cond.selects mX12_factor.1.cls mX12_factor.1 mX12_factor.1 ∈ lw_good := memg 1351 rfl rfl
abbrev mX12_weakest : MM := (yX12_weakest, cX12_weakest, 1, some .int)
set_option maxRecDepth 100000 in
theorem ok_X12_weakest : MOK mX12_weakest 0 := ⟨memg 1368 rfl rfl, memg 84 rfl rfl, ⟨by decide, by decide, by decide +kernel⟩, by decide⟩
set_option maxRecDepth 100000 in
theorem im_X12_weakest : Cond.instanceMethod mX12_weakest.1 ∈ lw_good := memg 1366 rfl rfl
set_option maxRecDepth 100000 in
theorem se_X12_weakest : Cond.selects mX12_weakest.1.cls mX12_weakest.1 mX12_weakest.1 ∈ lw_good := memg 1367 rfl rfl
abbrev mJ9_abs_0f7a4 : MM := (yJ9_abs_0f7a4, cJ9_abs_0f7a4, 1, some .int)
set_option maxRecDepth 100000 in
theorem ok_J9_abs_0f7a4 : MOK mJ9_abs_0f7a4 1 := ⟨memg 608 rfl rfl, memg 86 rfl rfl, ⟨by decide, by decide, by decide +kernel⟩, by decide⟩
set_option maxRecDepth 100000 in
theorem sm_J9_abs_0f7a4 : Cond.static mJ9_abs_0f7a4.1 ∈ lw_good := memg 607 rfl rfl
abbrev mJ9_abs_067f4 : MM := (yJ9_abs_067f4, cJ9_abs_067f4, 2, some .long)
set_option maxRecDepth 100000 in
theorem ok_J9_abs_067f4 : MOK mJ9_abs_067f4 1 := ⟨memg 626 rfl rfl, memg 86 rfl rfl, ⟨by decide, by decide, by decide +kernel⟩, by decide⟩
set_option maxRecDepth 100000 in
theorem sm_J9_abs_067f4 : Cond.static mJ9_abs_067f4.1 ∈ lw_good := memg 625 rfl rfl
abbrev mJ9_max_7cf53 : MM := (yJ9_max_7cf53, cJ9_max_7cf53, 2, some .int)
set_option maxRecDepth 100000 in
theorem ok_J9_max_7cf53 : MOK mJ9_max_7cf53 2 := ⟨memg 723 rfl rfl, memg 86 rfl rfl, ⟨by decide, by decide, by decide +kernel⟩, by decide⟩
set_option maxRecDepth 100000 in
theorem sm_J9_max_7cf53 : Cond.static mJ9_max_7cf53.1 ∈ lw_good := memg 722 rfl rfl
abbrev mJ9_max_f86c9 : MM := (yJ9_max_f86c9, cJ9_max_f86c9, 4, some .long)
set_option maxRecDepth 100000 in
theorem ok_J9_max_f86c9 : MOK mJ9_max_f86c9 2 := ⟨memg 853 rfl rfl, memg 86 rfl rfl, ⟨by decide, by decide, by decide +kernel⟩, by decide⟩
set_option maxRecDepth 100000 in
theorem sm_J9_max_f86c9 : Cond.static mJ9_max_f86c9.1 ∈ lw_good := memg 852 rfl rfl
abbrev mJ9_min_7cf53 : MM := (yJ9_min_7cf53, cJ9_min_7cf53, 2, some .int)
set_option maxRecDepth 100000 in
theorem ok_J9_min_7cf53 : MOK mJ9_min_7cf53 2 := ⟨memg 605 rfl rfl, memg 86 rfl rfl, ⟨by decide, by decide, by decide +kernel⟩, by decide⟩
set_option maxRecDepth 100000 in
theorem sm_J9_min_7cf53 : Cond.static mJ9_min_7cf53.1 ∈ lw_good := memg 604 rfl rfl
abbrev mJ9_min_f86c9 : MM := (yJ9_min_f86c9, cJ9_min_f86c9, 4, some .long)
set_option maxRecDepth 100000 in
theorem ok_J9_min_f86c9 : MOK mJ9_min_f86c9 2 := ⟨memg 602 rfl rfl, memg 86 rfl rfl, ⟨by decide, by decide, by decide +kernel⟩, by decide⟩
set_option maxRecDepth 100000 in
theorem sm_J9_min_f86c9 : Cond.static mJ9_min_f86c9.1 ∈ lw_good := memg 601 rfl rfl
abbrev mJ7_fill_d0a16 : MM := (yJ7_fill_d0a16, cJ7_fill_d0a16, 5, none)
set_option maxRecDepth 100000 in
theorem ok_J7_fill_d0a16 : MOK mJ7_fill_d0a16 2 := ⟨memg 860 rfl rfl, memg 85 rfl rfl, ⟨by decide, by decide, by decide +kernel⟩, by decide⟩
set_option maxRecDepth 100000 in
theorem sm_J7_fill_d0a16 : Cond.static mJ7_fill_d0a16.1 ∈ lw_good := memg 859 rfl rfl
abbrev mJ7_fill_53178 : MM := (yJ7_fill_53178, cJ7_fill_53178, 4, none)
set_option maxRecDepth 100000 in
theorem ok_J7_fill_53178 : MOK mJ7_fill_53178 2 := ⟨memg 590 rfl rfl, memg 85 rfl rfl, ⟨by decide, by decide, by decide +kernel⟩, by decide⟩
set_option maxRecDepth 100000 in
theorem sm_J7_fill_53178 : Cond.static mJ7_fill_53178.1 ∈ lw_good := memg 589 rfl rfl
abbrev mL_law : MM := (yL_law, cL_law, 4, some .boolean)
theorem cls0 : Cls 0 RX0 TX0 12 := ⟨by decide, rfl, by decide +kernel, tyX0_ok, nmX0⟩
set_option maxRecDepth 100000 in
theorem ini0 : Cond.initialized RX0 ∈ lw_good := memg 78 rfl rfl
set_option maxRecDepth 100000 in
theorem ins0 : Cond.instantiable RX0 12 ∈ lw_good := memg 194 rfl rfl
theorem dfy0 : ∀ k, k < 12 → tyOk 0 (kty 0 k) (dflt 0 k) := by
  intro k hk
  match k, hk with
  | 0, _ => exact (⟨by decide, by decide⟩ : inI 0)
  | 1, _ => exact (⟨by decide, by decide⟩ : (-1 : Int) ≤ -1 ∧ (-1 : Int) < (0 : Nat))
  | 2, _ => exact (⟨by decide, by decide⟩ : (-1 : Int) ≤ -1 ∧ (-1 : Int) < (0 : Nat))
  | 3, _ => exact (⟨by decide, by decide⟩ : (-1 : Int) ≤ -1 ∧ (-1 : Int) < (0 : Nat))
  | 4, _ => exact (⟨by decide, by decide⟩ : (-1 : Int) ≤ -1 ∧ (-1 : Int) < (0 : Nat))
  | 5, _ => exact (⟨by decide, by decide⟩ : inI 0)
  | 6, _ => exact (⟨by decide, by decide⟩ : inI 0)
  | 7, _ => exact (⟨by decide, by decide⟩ : (-1 : Int) ≤ -1 ∧ (-1 : Int) < (0 : Nat))
  | 8, _ => exact (⟨by decide, by decide⟩ : (-1 : Int) ≤ -1 ∧ (-1 : Int) < (0 : Nat))
  | 9, _ => exact (⟨by decide, by decide⟩ : (-1 : Int) ≤ -1 ∧ (-1 : Int) < (0 : Nat))
  | 10, _ => exact (⟨by decide, by decide⟩ : (-1 : Int) ≤ -1 ∧ (-1 : Int) < (0 : Nat))
  | 11, _ => exact (⟨by decide, by decide⟩ : (-1 : Int) ≤ -1 ∧ (-1 : Int) < (0 : Nat))
  | k + 12, hk => exact absurd hk (by omega)
theorem dfv0 : ∀ k, k < 12 → ∀ (φ : Nat → Nat) (b : Nat), defaultValue (fty 0 k) = toV φ b (ftag (fty 0 k), dflt 0 k) := by
  intro k hk φ b
  match k, hk with
  | 0, _ => rfl
  | 1, _ => rfl
  | 2, _ => rfl
  | 3, _ => rfl
  | 4, _ => rfl
  | 5, _ => rfl
  | 6, _ => rfl
  | 7, _ => rfl
  | 8, _ => rfl
  | 9, _ => rfl
  | 10, _ => rfl
  | 11, _ => rfl
  | k + 12, hk => exact absurd hk (by omega)
theorem cls1 : Cls 1 RX1 TX1 8 := ⟨by decide, rfl, by decide +kernel, tyX1_ok, nmX1⟩
set_option maxRecDepth 100000 in
theorem ini1 : Cond.initialized RX1 ∈ lw_good := memg 82 rfl rfl
set_option maxRecDepth 100000 in
theorem ins1 : Cond.instantiable RX1 8 ∈ lw_good := memg 329 rfl rfl
theorem dfy1 : ∀ k, k < 8 → tyOk 0 (kty 1 k) (dflt 1 k) := by
  intro k hk
  match k, hk with
  | 0, _ => exact (⟨by decide, by decide⟩ : (-1 : Int) ≤ -1 ∧ (-1 : Int) < (0 : Nat))
  | 1, _ => exact (⟨by decide, by decide⟩ : inI 0)
  | 2, _ => exact (⟨by decide, by decide⟩ : (-1 : Int) ≤ -1 ∧ (-1 : Int) < (0 : Nat))
  | 3, _ => exact (⟨by decide, by decide⟩ : (-1 : Int) ≤ -1 ∧ (-1 : Int) < (0 : Nat))
  | 4, _ => exact (⟨by decide, by decide⟩ : (-1 : Int) ≤ -1 ∧ (-1 : Int) < (0 : Nat))
  | 5, _ => exact (⟨by decide, by decide⟩ : inI 0)
  | 6, _ => exact (⟨by decide, by decide⟩ : (-1 : Int) ≤ -1 ∧ (-1 : Int) < (0 : Nat))
  | 7, _ => exact (⟨by decide, by decide⟩ : (-1 : Int) ≤ -1 ∧ (-1 : Int) < (0 : Nat))
  | k + 8, hk => exact absurd hk (by omega)
theorem dfv1 : ∀ k, k < 8 → ∀ (φ : Nat → Nat) (b : Nat), defaultValue (fty 1 k) = toV φ b (ftag (fty 1 k), dflt 1 k) := by
  intro k hk φ b
  match k, hk with
  | 0, _ => rfl
  | 1, _ => rfl
  | 2, _ => rfl
  | 3, _ => rfl
  | 4, _ => rfl
  | 5, _ => rfl
  | 6, _ => rfl
  | 7, _ => rfl
  | k + 8, hk => exact absurd hk (by omega)
theorem cls2 : Cls 2 RX2 TX2 3 := ⟨by decide, rfl, by decide +kernel, tyX2_ok, nmX2⟩
set_option maxRecDepth 100000 in
theorem ini2 : Cond.initialized RX2 ∈ lw_good := memg 76 rfl rfl
set_option maxRecDepth 100000 in
theorem ins2 : Cond.instantiable RX2 3 ∈ lw_good := memg 154 rfl rfl
theorem dfy2 : ∀ k, k < 3 → tyOk 0 (kty 2 k) (dflt 2 k) := by
  intro k hk
  match k, hk with
  | 0, _ => exact (⟨by decide, by decide⟩ : inI 0)
  | 1, _ => exact (⟨by decide, by decide⟩ : (-1 : Int) ≤ -1 ∧ (-1 : Int) < (0 : Nat))
  | 2, _ => exact (⟨by decide, by decide⟩ : (-1 : Int) ≤ -1 ∧ (-1 : Int) < (0 : Nat))
  | k + 3, hk => exact absurd hk (by omega)
theorem dfv2 : ∀ k, k < 3 → ∀ (φ : Nat → Nat) (b : Nat), defaultValue (fty 2 k) = toV φ b (ftag (fty 2 k), dflt 2 k) := by
  intro k hk φ b
  match k, hk with
  | 0, _ => rfl
  | 1, _ => rfl
  | 2, _ => rfl
  | k + 3, hk => exact absurd hk (by omega)
theorem cls3 : Cls 3 RX3 TX3 5 := ⟨by decide, rfl, by decide +kernel, tyX3_ok, nmX3⟩
set_option maxRecDepth 100000 in
theorem ini3 : Cond.initialized RX3 ∈ lw_good := memg 74 rfl rfl
set_option maxRecDepth 100000 in
theorem ins3 : Cond.instantiable RX3 5 ∈ lw_good := memg 103 rfl rfl
theorem dfy3 : ∀ k, k < 5 → tyOk 0 (kty 3 k) (dflt 3 k) := by
  intro k hk
  match k, hk with
  | 0, _ => exact (⟨by decide, by decide⟩ : (-1 : Int) ≤ -1 ∧ (-1 : Int) < (0 : Nat))
  | 1, _ => exact (⟨by decide, by decide⟩ : (-1 : Int) ≤ -1 ∧ (-1 : Int) < (0 : Nat))
  | 2, _ => exact (⟨by decide, by decide⟩ : (-1 : Int) ≤ -1 ∧ (-1 : Int) < (0 : Nat))
  | 3, _ => exact (⟨by decide, by decide⟩ : (-1 : Int) ≤ -1 ∧ (-1 : Int) < (0 : Nat))
  | 4, _ => exact (⟨by decide, by decide⟩ : (-1 : Int) ≤ -1 ∧ (-1 : Int) < (0 : Nat))
  | k + 5, hk => exact absurd hk (by omega)
theorem dfv3 : ∀ k, k < 5 → ∀ (φ : Nat → Nat) (b : Nat), defaultValue (fty 3 k) = toV φ b (ftag (fty 3 k), dflt 3 k) := by
  intro k hk φ b
  match k, hk with
  | 0, _ => rfl
  | 1, _ => rfl
  | 2, _ => rfl
  | 3, _ => rfl
  | 4, _ => rfl
  | k + 5, hk => exact absurd hk (by omega)
theorem cls4 : Cls 4 RX4 TX4 18 := ⟨by decide, rfl, by decide +kernel, tyX4_ok, nmX4⟩
set_option maxRecDepth 100000 in
theorem ini4 : Cond.initialized RX4 ∈ lw_good := memg 83 rfl rfl
set_option maxRecDepth 100000 in
theorem ins4 : Cond.instantiable RX4 18 ∈ lw_good := memg 361 rfl rfl
theorem dfy4 : ∀ k, k < 18 → tyOk 0 (kty 4 k) (dflt 4 k) := by
  intro k hk
  match k, hk with
  | 0, _ => exact (⟨by decide, by decide⟩ : inI 0)
  | 1, _ => exact (⟨by decide, by decide⟩ : inI 0)
  | 2, _ => exact (⟨by decide, by decide⟩ : inI 0)
  | 3, _ => exact (⟨by decide, by decide⟩ : inI 0)
  | 4, _ => exact (⟨by decide, by decide⟩ : (-1 : Int) ≤ -1 ∧ (-1 : Int) < (0 : Nat))
  | 5, _ => exact (⟨by decide, by decide⟩ : (-1 : Int) ≤ -1 ∧ (-1 : Int) < (0 : Nat))
  | 6, _ => exact (⟨by decide, by decide⟩ : (-1 : Int) ≤ -1 ∧ (-1 : Int) < (0 : Nat))
  | 7, _ => exact (⟨by decide, by decide⟩ : inI 0)
  | 8, _ => exact (⟨by decide, by decide⟩ : (-1 : Int) ≤ -1 ∧ (-1 : Int) < (0 : Nat))
  | 9, _ => exact (⟨by decide, by decide⟩ : (-1 : Int) ≤ -1 ∧ (-1 : Int) < (0 : Nat))
  | 10, _ => exact (⟨by decide, by decide⟩ : inI 0)
  | 11, _ => exact (⟨by decide, by decide⟩ : (-1 : Int) ≤ -1 ∧ (-1 : Int) < (0 : Nat))
  | 12, _ => exact (⟨by decide, by decide⟩ : (-1 : Int) ≤ -1 ∧ (-1 : Int) < (0 : Nat))
  | 13, _ => exact (⟨by decide, by decide⟩ : (-1 : Int) ≤ -1 ∧ (-1 : Int) < (0 : Nat))
  | 14, _ => exact Or.inl rfl
  | 15, _ => exact Or.inl rfl
  | 16, _ => exact (⟨by decide, by decide⟩ : inI 0)
  | 17, _ => exact (⟨by decide, by decide⟩ : (-1 : Int) ≤ -1 ∧ (-1 : Int) < (0 : Nat))
  | k + 18, hk => exact absurd hk (by omega)
theorem dfv4 : ∀ k, k < 18 → ∀ (φ : Nat → Nat) (b : Nat), defaultValue (fty 4 k) = toV φ b (ftag (fty 4 k), dflt 4 k) := by
  intro k hk φ b
  match k, hk with
  | 0, _ => rfl
  | 1, _ => rfl
  | 2, _ => rfl
  | 3, _ => rfl
  | 4, _ => rfl
  | 5, _ => rfl
  | 6, _ => rfl
  | 7, _ => rfl
  | 8, _ => rfl
  | 9, _ => rfl
  | 10, _ => rfl
  | 11, _ => rfl
  | 12, _ => rfl
  | 13, _ => rfl
  | 14, _ => rfl
  | 15, _ => rfl
  | 16, _ => rfl
  | 17, _ => rfl
  | k + 18, hk => exact absurd hk (by omega)
theorem cls5 : Cls 5 RX5 TX5 2 := ⟨by decide, rfl, by decide +kernel, tyX5_ok, nmX5⟩
set_option maxRecDepth 100000 in
theorem ini5 : Cond.initialized RX5 ∈ lw_good := memg 80 rfl rfl
set_option maxRecDepth 100000 in
theorem ins5 : Cond.instantiable RX5 2 ∈ lw_good := memg 210 rfl rfl
theorem dfy5 : ∀ k, k < 2 → tyOk 0 (kty 5 k) (dflt 5 k) := by
  intro k hk
  match k, hk with
  | 0, _ => exact (⟨by decide, by decide⟩ : inL 0)
  | 1, _ => exact (⟨by decide, by decide⟩ : inL 0)
  | k + 2, hk => exact absurd hk (by omega)
theorem dfv5 : ∀ k, k < 2 → ∀ (φ : Nat → Nat) (b : Nat), defaultValue (fty 5 k) = toV φ b (ftag (fty 5 k), dflt 5 k) := by
  intro k hk φ b
  match k, hk with
  | 0, _ => rfl
  | 1, _ => rfl
  | k + 2, hk => exact absurd hk (by omega)
theorem cls6 : Cls 6 RX6 TX6 3 := ⟨by decide, rfl, by decide +kernel, tyX6_ok, nmX6⟩
set_option maxRecDepth 100000 in
theorem ini6 : Cond.initialized RX6 ∈ lw_good := memg 77 rfl rfl
set_option maxRecDepth 100000 in
theorem ins6 : Cond.instantiable RX6 3 ∈ lw_good := memg 176 rfl rfl
theorem dfy6 : ∀ k, k < 3 → tyOk 0 (kty 6 k) (dflt 6 k) := by
  intro k hk
  match k, hk with
  | 0, _ => exact (⟨by decide, by decide⟩ : inI 0)
  | 1, _ => exact (⟨by decide, by decide⟩ : (-1 : Int) ≤ -1 ∧ (-1 : Int) < (0 : Nat))
  | 2, _ => exact (⟨by decide, by decide⟩ : (-1 : Int) ≤ -1 ∧ (-1 : Int) < (0 : Nat))
  | k + 3, hk => exact absurd hk (by omega)
theorem dfv6 : ∀ k, k < 3 → ∀ (φ : Nat → Nat) (b : Nat), defaultValue (fty 6 k) = toV φ b (ftag (fty 6 k), dflt 6 k) := by
  intro k hk φ b
  match k, hk with
  | 0, _ => rfl
  | 1, _ => rfl
  | 2, _ => rfl
  | k + 3, hk => exact absurd hk (by omega)
theorem cls7 : Cls 7 RX7 TX7 5 := ⟨by decide, rfl, by decide +kernel, tyX7_ok, nmX7⟩
set_option maxRecDepth 100000 in
theorem ini7 : Cond.initialized RX7 ∈ lw_good := memg 81 rfl rfl
set_option maxRecDepth 100000 in
theorem ins7 : Cond.instantiable RX7 5 ∈ lw_good := memg 255 rfl rfl
theorem dfy7 : ∀ k, k < 5 → tyOk 0 (kty 7 k) (dflt 7 k) := by
  intro k hk
  match k, hk with
  | 0, _ => exact (⟨by decide, by decide⟩ : inI 0)
  | 1, _ => exact (⟨by decide, by decide⟩ : inI 0)
  | 2, _ => exact (⟨by decide, by decide⟩ : inI 0)
  | 3, _ => exact (⟨by decide, by decide⟩ : (-1 : Int) ≤ -1 ∧ (-1 : Int) < (0 : Nat))
  | 4, _ => exact (⟨by decide, by decide⟩ : (-1 : Int) ≤ -1 ∧ (-1 : Int) < (0 : Nat))
  | k + 5, hk => exact absurd hk (by omega)
theorem dfv7 : ∀ k, k < 5 → ∀ (φ : Nat → Nat) (b : Nat), defaultValue (fty 7 k) = toV φ b (ftag (fty 7 k), dflt 7 k) := by
  intro k hk φ b
  match k, hk with
  | 0, _ => rfl
  | 1, _ => rfl
  | 2, _ => rfl
  | 3, _ => rfl
  | 4, _ => rfl
  | k + 5, hk => exact absurd hk (by omega)
theorem cls8 : Cls 8 RX8 TX8 3 := ⟨by decide, rfl, by decide +kernel, tyX8_ok, nmX8⟩
set_option maxRecDepth 100000 in
theorem ini8 : Cond.initialized RX8 ∈ lw_good := memg 73 rfl rfl
set_option maxRecDepth 100000 in
theorem ins8 : Cond.instantiable RX8 3 ∈ lw_good := memg 97 rfl rfl
theorem dfy8 : ∀ k, k < 3 → tyOk 0 (kty 8 k) (dflt 8 k) := by
  intro k hk
  match k, hk with
  | 0, _ => exact (⟨by decide, by decide⟩ : inI 0)
  | 1, _ => exact (⟨by decide, by decide⟩ : (-1 : Int) ≤ -1 ∧ (-1 : Int) < (0 : Nat))
  | 2, _ => exact (⟨by decide, by decide⟩ : (-1 : Int) ≤ -1 ∧ (-1 : Int) < (0 : Nat))
  | k + 3, hk => exact absurd hk (by omega)
theorem dfv8 : ∀ k, k < 3 → ∀ (φ : Nat → Nat) (b : Nat), defaultValue (fty 8 k) = toV φ b (ftag (fty 8 k), dflt 8 k) := by
  intro k hk φ b
  match k, hk with
  | 0, _ => rfl
  | 1, _ => rfl
  | 2, _ => rfl
  | k + 3, hk => exact absurd hk (by omega)
theorem cls9 : Cls 9 RX9 TX9 6 := ⟨by decide, rfl, by decide +kernel, tyX9_ok, nmX9⟩
set_option maxRecDepth 100000 in
theorem ini9 : Cond.initialized RX9 ∈ lw_good := memg 79 rfl rfl
set_option maxRecDepth 100000 in
theorem ins9 : Cond.instantiable RX9 6 ∈ lw_good := memg 204 rfl rfl
theorem dfy9 : ∀ k, k < 6 → tyOk 0 (kty 9 k) (dflt 9 k) := by
  intro k hk
  match k, hk with
  | 0, _ => exact (⟨by decide, by decide⟩ : (-1 : Int) ≤ -1 ∧ (-1 : Int) < (0 : Nat))
  | 1, _ => exact (⟨by decide, by decide⟩ : (-1 : Int) ≤ -1 ∧ (-1 : Int) < (0 : Nat))
  | 2, _ => exact (⟨by decide, by decide⟩ : (-1 : Int) ≤ -1 ∧ (-1 : Int) < (0 : Nat))
  | 3, _ => exact (⟨by decide, by decide⟩ : inI 0)
  | 4, _ => exact (⟨by decide, by decide⟩ : inI 0)
  | 5, _ => exact (⟨by decide, by decide⟩ : inL 0)
  | k + 6, hk => exact absurd hk (by omega)
theorem dfv9 : ∀ k, k < 6 → ∀ (φ : Nat → Nat) (b : Nat), defaultValue (fty 9 k) = toV φ b (ftag (fty 9 k), dflt 9 k) := by
  intro k hk φ b
  match k, hk with
  | 0, _ => rfl
  | 1, _ => rfl
  | 2, _ => rfl
  | 3, _ => rfl
  | 4, _ => rfl
  | 5, _ => rfl
  | k + 6, hk => exact absurd hk (by omega)
theorem cls10 : Cls 10 RX10 TX10 1 := ⟨by decide, rfl, by decide +kernel, tyX10_ok, nmX10⟩
set_option maxRecDepth 100000 in
theorem ini10 : Cond.initialized RX10 ∈ lw_good := memg 75 rfl rfl
set_option maxRecDepth 100000 in
theorem ins10 : Cond.instantiable RX10 1 ∈ lw_good := memg 109 rfl rfl
theorem dfy10 : ∀ k, k < 1 → tyOk 0 (kty 10 k) (dflt 10 k) := by
  intro k hk
  match k, hk with
  | 0, _ => exact (⟨by decide, by decide⟩ : (-1 : Int) ≤ -1 ∧ (-1 : Int) < (0 : Nat))
  | k + 1, hk => exact absurd hk (by omega)
theorem dfv10 : ∀ k, k < 1 → ∀ (φ : Nat → Nat) (b : Nat), defaultValue (fty 10 k) = toV φ b (ftag (fty 10 k), dflt 10 k) := by
  intro k hk φ b
  match k, hk with
  | 0, _ => rfl
  | k + 1, hk => exact absurd hk (by omega)
theorem cls11 : Cls 11 RX11 TX11 8 := ⟨by decide, rfl, by decide +kernel, tyX11_ok, nmX11⟩
set_option maxRecDepth 100000 in
theorem ini11 : Cond.initialized RX11 ∈ lw_good := memg 72 rfl rfl
set_option maxRecDepth 100000 in
theorem ins11 : Cond.instantiable RX11 8 ∈ lw_good := memg 89 rfl rfl
theorem dfy11 : ∀ k, k < 8 → tyOk 0 (kty 11 k) (dflt 11 k) := by
  intro k hk
  match k, hk with
  | 0, _ => exact (⟨by decide, by decide⟩ : inI 0)
  | 1, _ => exact (⟨by decide, by decide⟩ : (-1 : Int) ≤ -1 ∧ (-1 : Int) < (0 : Nat))
  | 2, _ => exact (⟨by decide, by decide⟩ : (-1 : Int) ≤ -1 ∧ (-1 : Int) < (0 : Nat))
  | 3, _ => exact (⟨by decide, by decide⟩ : (-1 : Int) ≤ -1 ∧ (-1 : Int) < (0 : Nat))
  | 4, _ => exact (⟨by decide, by decide⟩ : (-1 : Int) ≤ -1 ∧ (-1 : Int) < (0 : Nat))
  | 5, _ => exact (⟨by decide, by decide⟩ : (-1 : Int) ≤ -1 ∧ (-1 : Int) < (0 : Nat))
  | 6, _ => exact (⟨by decide, by decide⟩ : (-1 : Int) ≤ -1 ∧ (-1 : Int) < (0 : Nat))
  | 7, _ => exact (⟨by decide, by decide⟩ : (-1 : Int) ≤ -1 ∧ (-1 : Int) < (0 : Nat))
  | k + 8, hk => exact absurd hk (by omega)
theorem dfv11 : ∀ k, k < 8 → ∀ (φ : Nat → Nat) (b : Nat), defaultValue (fty 11 k) = toV φ b (ftag (fty 11 k), dflt 11 k) := by
  intro k hk φ b
  match k, hk with
  | 0, _ => rfl
  | 1, _ => rfl
  | 2, _ => rfl
  | 3, _ => rfl
  | 4, _ => rfl
  | 5, _ => rfl
  | 6, _ => rfl
  | 7, _ => rfl
  | k + 8, hk => exact absurd hk (by omega)
theorem cls12 : Cls 12 RX12 TX12 51 := ⟨by decide, rfl, by decide +kernel, tyX12_ok, nmX12⟩
set_option maxRecDepth 100000 in
theorem ini12 : Cond.initialized RX12 ∈ lw_good := memg 84 rfl rfl
set_option maxRecDepth 100000 in
theorem ins12 : Cond.instantiable RX12 51 ∈ lw_good := memg 919 rfl rfl
theorem dfy12 : ∀ k, k < 51 → tyOk 0 (kty 12 k) (dflt 12 k) := by
  intro k hk
  match k, hk with
  | 0, _ => exact (⟨by decide, by decide⟩ : inI 0)
  | 1, _ => exact (⟨by decide, by decide⟩ : (-1 : Int) ≤ -1 ∧ (-1 : Int) < (0 : Nat))
  | 2, _ => exact (⟨by decide, by decide⟩ : inI 0)
  | 3, _ => exact (⟨by decide, by decide⟩ : (-1 : Int) ≤ -1 ∧ (-1 : Int) < (0 : Nat))
  | 4, _ => exact (⟨by decide, by decide⟩ : (-1 : Int) ≤ -1 ∧ (-1 : Int) < (0 : Nat))
  | 5, _ => exact (⟨by decide, by decide⟩ : (-1 : Int) ≤ -1 ∧ (-1 : Int) < (0 : Nat))
  | 6, _ => exact (⟨by decide, by decide⟩ : inI 0)
  | 7, _ => exact (⟨by decide, by decide⟩ : inI 0)
  | 8, _ => exact (⟨by decide, by decide⟩ : (-1 : Int) ≤ -1 ∧ (-1 : Int) < (0 : Nat))
  | 9, _ => exact (⟨by decide, by decide⟩ : inI 0)
  | 10, _ => exact (⟨by decide, by decide⟩ : (-1 : Int) ≤ -1 ∧ (-1 : Int) < (0 : Nat))
  | 11, _ => exact (⟨by decide, by decide⟩ : (-1 : Int) ≤ -1 ∧ (-1 : Int) < (0 : Nat))
  | 12, _ => exact (⟨by decide, by decide⟩ : (-1 : Int) ≤ -1 ∧ (-1 : Int) < (0 : Nat))
  | 13, _ => exact (⟨by decide, by decide⟩ : (-1 : Int) ≤ -1 ∧ (-1 : Int) < (0 : Nat))
  | 14, _ => exact (⟨by decide, by decide⟩ : (-1 : Int) ≤ -1 ∧ (-1 : Int) < (0 : Nat))
  | 15, _ => exact (⟨by decide, by decide⟩ : (-1 : Int) ≤ -1 ∧ (-1 : Int) < (0 : Nat))
  | 16, _ => exact (⟨by decide, by decide⟩ : (-1 : Int) ≤ -1 ∧ (-1 : Int) < (0 : Nat))
  | 17, _ => exact (⟨by decide, by decide⟩ : (-1 : Int) ≤ -1 ∧ (-1 : Int) < (0 : Nat))
  | 18, _ => exact (⟨by decide, by decide⟩ : (-1 : Int) ≤ -1 ∧ (-1 : Int) < (0 : Nat))
  | 19, _ => exact (⟨by decide, by decide⟩ : inL 0)
  | 20, _ => exact (⟨by decide, by decide⟩ : inL 0)
  | 21, _ => exact (⟨by decide, by decide⟩ : inL 0)
  | 22, _ => exact (⟨by decide, by decide⟩ : inL 0)
  | 23, _ => exact (⟨by decide, by decide⟩ : (-1 : Int) ≤ -1 ∧ (-1 : Int) < (0 : Nat))
  | 24, _ => exact (⟨by decide, by decide⟩ : (-1 : Int) ≤ -1 ∧ (-1 : Int) < (0 : Nat))
  | 25, _ => exact (⟨by decide, by decide⟩ : (-1 : Int) ≤ -1 ∧ (-1 : Int) < (0 : Nat))
  | 26, _ => exact (⟨by decide, by decide⟩ : (-1 : Int) ≤ -1 ∧ (-1 : Int) < (0 : Nat))
  | 27, _ => exact (⟨by decide, by decide⟩ : inI 0)
  | 28, _ => exact (⟨by decide, by decide⟩ : inI 0)
  | 29, _ => exact (⟨by decide, by decide⟩ : (-1 : Int) ≤ -1 ∧ (-1 : Int) < (0 : Nat))
  | 30, _ => exact (⟨by decide, by decide⟩ : inI 0)
  | 31, _ => exact (⟨by decide, by decide⟩ : (-1 : Int) ≤ -1 ∧ (-1 : Int) < (0 : Nat))
  | 32, _ => exact (⟨by decide, by decide⟩ : (-1 : Int) ≤ -1 ∧ (-1 : Int) < (0 : Nat))
  | 33, _ => exact (⟨by decide, by decide⟩ : (-1 : Int) ≤ -1 ∧ (-1 : Int) < (0 : Nat))
  | 34, _ => exact (⟨by decide, by decide⟩ : (-1 : Int) ≤ -1 ∧ (-1 : Int) < (0 : Nat))
  | 35, _ => exact (⟨by decide, by decide⟩ : (-1 : Int) ≤ -1 ∧ (-1 : Int) < (0 : Nat))
  | 36, _ => exact (⟨by decide, by decide⟩ : (-1 : Int) ≤ -1 ∧ (-1 : Int) < (0 : Nat))
  | 37, _ => exact (⟨by decide, by decide⟩ : inI 0)
  | 38, _ => exact (⟨by decide, by decide⟩ : inL 0)
  | 39, _ => exact (⟨by decide, by decide⟩ : inL 0)
  | 40, _ => exact (⟨by decide, by decide⟩ : inL 0)
  | 41, _ => exact (⟨by decide, by decide⟩ : inL 0)
  | 42, _ => exact (⟨by decide, by decide⟩ : inL 0)
  | 43, _ => exact (⟨by decide, by decide⟩ : inL 0)
  | 44, _ => exact (⟨by decide, by decide⟩ : inL 0)
  | 45, _ => exact (⟨by decide, by decide⟩ : inL 0)
  | 46, _ => exact (⟨by decide, by decide⟩ : inL 0)
  | 47, _ => exact (⟨by decide, by decide⟩ : inI 0)
  | 48, _ => exact (⟨by decide, by decide⟩ : inI 0)
  | 49, _ => exact (⟨by decide, by decide⟩ : (-1 : Int) ≤ -1 ∧ (-1 : Int) < (0 : Nat))
  | 50, _ => exact (⟨by decide, by decide⟩ : inI 0)
  | k + 51, hk => exact absurd hk (by omega)
theorem dfv12 : ∀ k, k < 51 → ∀ (φ : Nat → Nat) (b : Nat), defaultValue (fty 12 k) = toV φ b (ftag (fty 12 k), dflt 12 k) := by
  intro k hk φ b
  match k, hk with
  | 0, _ => rfl
  | 1, _ => rfl
  | 2, _ => rfl
  | 3, _ => rfl
  | 4, _ => rfl
  | 5, _ => rfl
  | 6, _ => rfl
  | 7, _ => rfl
  | 8, _ => rfl
  | 9, _ => rfl
  | 10, _ => rfl
  | 11, _ => rfl
  | 12, _ => rfl
  | 13, _ => rfl
  | 14, _ => rfl
  | 15, _ => rfl
  | 16, _ => rfl
  | 17, _ => rfl
  | 18, _ => rfl
  | 19, _ => rfl
  | 20, _ => rfl
  | 21, _ => rfl
  | 22, _ => rfl
  | 23, _ => rfl
  | 24, _ => rfl
  | 25, _ => rfl
  | 26, _ => rfl
  | 27, _ => rfl
  | 28, _ => rfl
  | 29, _ => rfl
  | 30, _ => rfl
  | 31, _ => rfl
  | 32, _ => rfl
  | 33, _ => rfl
  | 34, _ => rfl
  | 35, _ => rfl
  | 36, _ => rfl
  | 37, _ => rfl
  | 38, _ => rfl
  | 39, _ => rfl
  | 40, _ => rfl
  | 41, _ => rfl
  | 42, _ => rfl
  | 43, _ => rfl
  | 44, _ => rfl
  | 45, _ => rfl
  | 46, _ => rfl
  | 47, _ => rfl
  | 48, _ => rfl
  | 49, _ => rfl
  | 50, _ => rfl
  | k + 51, hk => exact absurd hk (by omega)
set_option maxRecDepth 100000 in
theorem cl_RL_7 : Cond.classLink RL 7 RX11 ∈ lw_good := memg 88 rfl rfl
set_option maxRecDepth 100000 in
theorem ml_RL_9 : Cond.methodLink RL 9 mX11_init.1 ∈ lw_good := memg 90 rfl rfl
set_option maxRecDepth 100000 in
theorem ml_RX11_1 : Cond.methodLink RX11 1 objectInit ∈ lw_good := memg 93 rfl rfl
set_option maxRecDepth 100000 in
theorem cl_RX11_13 : Cond.classLink RX11 13 RX8 ∈ lw_good := memg 96 rfl rfl
set_option maxRecDepth 100000 in
theorem mn_RX11_15 : Cond.methodLinkNest RX11 15 mX8_init.1 "RodBeam" ∈ lw_nest := memn 98 rfl rfl
set_option maxRecDepth 100000 in
theorem ml_RX8_3 : Cond.methodLink RX8 3 objectInit ∈ lw_good := memg 101 rfl rfl
set_option maxRecDepth 100000 in
theorem cl_RX8_19 : Cond.classLink RX8 19 RX3 ∈ lw_good := memg 102 rfl rfl
set_option maxRecDepth 100000 in
theorem mn_RX8_21 : Cond.methodLinkNest RX8 21 mX3_init.1 "RodBeam" ∈ lw_nest := memn 104 rfl rfl
set_option maxRecDepth 100000 in
theorem ml_RX3_1 : Cond.methodLink RX3 1 objectInit ∈ lw_good := memg 107 rfl rfl
set_option maxRecDepth 100000 in
theorem cl_RX3_7 : Cond.classLink RX3 7 RX10 ∈ lw_good := memg 108 rfl rfl
set_option maxRecDepth 100000 in
theorem mn_RX3_9 : Cond.methodLinkNest RX3 9 mX10_init.1 "RodBeam" ∈ lw_nest := memn 110 rfl rfl
set_option maxRecDepth 100000 in
theorem ml_RX10_1 : Cond.methodLink RX10 1 objectInit ∈ lw_good := memg 113 rfl rfl
set_option maxRecDepth 100000 in
theorem fl_RX10_9 : Cond.fieldLink RX10 9 (TX10 0).1 (TX10 0).2.1 (TX10 0).2.2.1 ∈ lw_good := memg 114 rfl rfl
set_option maxRecDepth 100000 in
theorem fl_RX8_67 : Cond.fieldLink RX8 67 (TX10 0).1 (TX10 0).2.1 (TX10 0).2.2.1 ∈ lw_good := memg 115 rfl rfl
set_option maxRecDepth 100000 in
theorem ac_int : Cond.arrayClass .int ∈ lw_good := memg 119 rfl rfl
set_option maxRecDepth 100000 in
theorem ac_long : Cond.arrayClass .long ∈ lw_good := memg 120 rfl rfl
set_option maxRecDepth 100000 in
theorem fl_RX3_10 : Cond.fieldLink RX3 10 (TX3 0).1 (TX3 0).2.1 (TX3 0).2.2.1 ∈ lw_good := memg 121 rfl rfl
set_option maxRecDepth 100000 in
theorem fl_RX8_56 : Cond.fieldLink RX8 56 (TX3 0).1 (TX3 0).2.1 (TX3 0).2.2.1 ∈ lw_good := memg 122 rfl rfl
set_option maxRecDepth 100000 in
theorem fl_RX3_16 : Cond.fieldLink RX3 16 (TX3 1).1 (TX3 1).2.1 (TX3 1).2.2.1 ∈ lw_good := memg 123 rfl rfl
set_option maxRecDepth 100000 in
theorem fl_RX8_63 : Cond.fieldLink RX8 63 (TX3 1).1 (TX3 1).2.1 (TX3 1).2.2.1 ∈ lw_good := memg 124 rfl rfl
set_option maxRecDepth 100000 in
theorem fl_RX3_19 : Cond.fieldLink RX3 19 (TX3 2).1 (TX3 2).2.1 (TX3 2).2.2.1 ∈ lw_good := memg 125 rfl rfl
set_option maxRecDepth 100000 in
theorem fl_RX3_22 : Cond.fieldLink RX3 22 (TX3 3).1 (TX3 3).2.1 (TX3 3).2.2.1 ∈ lw_good := memg 126 rfl rfl
set_option maxRecDepth 100000 in
theorem fl_RX3_25 : Cond.fieldLink RX3 25 (TX3 4).1 (TX3 4).2.1 (TX3 4).2.2.1 ∈ lw_good := memg 127 rfl rfl
set_option maxRecDepth 100000 in
theorem fl_RX8_9 : Cond.fieldLink RX8 9 (TX8 0).1 (TX8 0).2.1 (TX8 0).2.2.1 ∈ lw_good := memg 139 rfl rfl
set_option maxRecDepth 100000 in
theorem fl_RX11_62 : Cond.fieldLink RX11 62 (TX8 0).1 (TX8 0).2.1 (TX8 0).2.2.1 ∈ lw_good := memg 140 rfl rfl
set_option maxRecDepth 100000 in
theorem fl_RX8_15 : Cond.fieldLink RX8 15 (TX8 1).1 (TX8 1).2.1 (TX8 1).2.2.1 ∈ lw_good := memg 141 rfl rfl
set_option maxRecDepth 100000 in
theorem fl_RX11_65 : Cond.fieldLink RX11 65 (TX8 1).1 (TX8 1).2.1 (TX8 1).2.2.1 ∈ lw_good := memg 142 rfl rfl
set_option maxRecDepth 100000 in
theorem fl_RX8_22 : Cond.fieldLink RX8 22 (TX8 2).1 (TX8 2).2.1 (TX8 2).2.2.1 ∈ lw_good := memg 143 rfl rfl
set_option maxRecDepth 100000 in
theorem cl_RX11_20 : Cond.classLink RX11 20 RX4 ∈ lw_good := memg 151 rfl rfl
set_option maxRecDepth 100000 in
theorem ao_RX4 : Cond.arrayOver (.object RX4) ∈ lw_nest := memn 152 rfl rfl
set_option maxRecDepth 100000 in
theorem cl_RX11_26 : Cond.classLink RX11 26 RX2 ∈ lw_good := memg 153 rfl rfl
set_option maxRecDepth 100000 in
theorem mn_RX11_28 : Cond.methodLinkNest RX11 28 mX2_init.1 "RodBeam" ∈ lw_nest := memn 155 rfl rfl
set_option maxRecDepth 100000 in
theorem ml_RX2_3 : Cond.methodLink RX2 3 objectInit ∈ lw_good := memg 158 rfl rfl
set_option maxRecDepth 100000 in
theorem fl_RX2_9 : Cond.fieldLink RX2 9 (TX2 0).1 (TX2 0).2.1 (TX2 0).2.2.1 ∈ lw_good := memg 159 rfl rfl
set_option maxRecDepth 100000 in
theorem fl_RX1_82 : Cond.fieldLink RX1 82 (TX2 0).1 (TX2 0).2.1 (TX2 0).2.2.1 ∈ lw_good := memg 160 rfl rfl
set_option maxRecDepth 100000 in
theorem fl_RX11_157 : Cond.fieldLink RX11 157 (TX2 0).1 (TX2 0).2.1 (TX2 0).2.2.1 ∈ lw_good := memg 161 rfl rfl
set_option maxRecDepth 100000 in
theorem fl_RX2_15 : Cond.fieldLink RX2 15 (TX2 1).1 (TX2 1).2.1 (TX2 1).2.2.1 ∈ lw_good := memg 162 rfl rfl
set_option maxRecDepth 100000 in
theorem fl_RX1_87 : Cond.fieldLink RX1 87 (TX2 1).1 (TX2 1).2.1 (TX2 1).2.2.1 ∈ lw_good := memg 163 rfl rfl
set_option maxRecDepth 100000 in
theorem fl_RX11_166 : Cond.fieldLink RX11 166 (TX2 1).1 (TX2 1).2.1 (TX2 1).2.2.1 ∈ lw_good := memg 164 rfl rfl
set_option maxRecDepth 100000 in
theorem fl_RX2_19 : Cond.fieldLink RX2 19 (TX2 2).1 (TX2 2).2.1 (TX2 2).2.2.1 ∈ lw_good := memg 165 rfl rfl
set_option maxRecDepth 100000 in
theorem fl_RX1_90 : Cond.fieldLink RX1 90 (TX2 2).1 (TX2 2).2.1 (TX2 2).2.2.1 ∈ lw_good := memg 166 rfl rfl
set_option maxRecDepth 100000 in
theorem fl_RX11_169 : Cond.fieldLink RX11 169 (TX2 2).1 (TX2 2).2.1 (TX2 2).2.2.1 ∈ lw_good := memg 167 rfl rfl
set_option maxRecDepth 100000 in
theorem cl_RX11_33 : Cond.classLink RX11 33 RX6 ∈ lw_good := memg 175 rfl rfl
set_option maxRecDepth 100000 in
theorem mn_RX11_35 : Cond.methodLinkNest RX11 35 mX6_init.1 "RodBeam" ∈ lw_nest := memn 177 rfl rfl
set_option maxRecDepth 100000 in
theorem ml_RX6_3 : Cond.methodLink RX6 3 objectInit ∈ lw_good := memg 180 rfl rfl
set_option maxRecDepth 100000 in
theorem fl_RX6_9 : Cond.fieldLink RX6 9 (TX6 0).1 (TX6 0).2.1 (TX6 0).2.2.1 ∈ lw_good := memg 181 rfl rfl
set_option maxRecDepth 100000 in
theorem fl_RX1_116 : Cond.fieldLink RX1 116 (TX6 0).1 (TX6 0).2.1 (TX6 0).2.2.1 ∈ lw_good := memg 182 rfl rfl
set_option maxRecDepth 100000 in
theorem fl_RX11_172 : Cond.fieldLink RX11 172 (TX6 0).1 (TX6 0).2.1 (TX6 0).2.2.1 ∈ lw_good := memg 183 rfl rfl
set_option maxRecDepth 100000 in
theorem fl_RX6_15 : Cond.fieldLink RX6 15 (TX6 1).1 (TX6 1).2.1 (TX6 1).2.2.1 ∈ lw_good := memg 184 rfl rfl
set_option maxRecDepth 100000 in
theorem fl_RX6_19 : Cond.fieldLink RX6 19 (TX6 2).1 (TX6 2).2.1 (TX6 2).2.2.1 ∈ lw_good := memg 185 rfl rfl
set_option maxRecDepth 100000 in
theorem cl_RX11_40 : Cond.classLink RX11 40 RX0 ∈ lw_good := memg 193 rfl rfl
set_option maxRecDepth 100000 in
theorem ml_RX11_42 : Cond.methodLink RX11 42 mX0_init.1 ∈ lw_good := memg 195 rfl rfl
set_option maxRecDepth 100000 in
theorem ml_RX0_3 : Cond.methodLink RX0 3 objectInit ∈ lw_good := memg 198 rfl rfl
set_option maxRecDepth 100000 in
theorem cl_RX0_15 : Cond.classLink RX0 15 RX7 ∈ lw_good := memg 199 rfl rfl
set_option maxRecDepth 100000 in
theorem ao_RX7 : Cond.arrayOver (.object RX7) ∈ lw_nest := memn 200 rfl rfl
set_option maxRecDepth 100000 in
theorem cl_RX0_25 : Cond.classLink RX0 25 RX3 ∈ lw_good := memg 201 rfl rfl
set_option maxRecDepth 100000 in
theorem mn_RX0_27 : Cond.methodLinkNest RX0 27 mX3_init.1 "RodBeam" ∈ lw_nest := memn 202 rfl rfl
set_option maxRecDepth 100000 in
theorem cl_RX0_41 : Cond.classLink RX0 41 RX9 ∈ lw_good := memg 203 rfl rfl
set_option maxRecDepth 100000 in
theorem mn_RX0_43 : Cond.methodLinkNest RX0 43 mX9_init.1 "RodBeam" ∈ lw_nest := memn 205 rfl rfl
set_option maxRecDepth 100000 in
theorem ml_RX9_1 : Cond.methodLink RX9 1 objectInit ∈ lw_good := memg 208 rfl rfl
set_option maxRecDepth 100000 in
theorem cl_RX9_7 : Cond.classLink RX9 7 RX5 ∈ lw_good := memg 209 rfl rfl
set_option maxRecDepth 100000 in
theorem mn_RX9_9 : Cond.methodLinkNest RX9 9 mX5_init.1 "RodBeam" ∈ lw_nest := memn 211 rfl rfl
set_option maxRecDepth 100000 in
theorem ml_RX5_1 : Cond.methodLink RX5 1 objectInit ∈ lw_good := memg 214 rfl rfl
set_option maxRecDepth 100000 in
theorem fl_RX5_7 : Cond.fieldLink RX5 7 (TX5 0).1 (TX5 0).2.1 (TX5 0).2.2.1 ∈ lw_good := memg 215 rfl rfl
set_option maxRecDepth 100000 in
theorem fl_RX8_31 : Cond.fieldLink RX8 31 (TX5 0).1 (TX5 0).2.1 (TX5 0).2.2.1 ∈ lw_good := memg 216 rfl rfl
set_option maxRecDepth 100000 in
theorem fl_RX3_52 : Cond.fieldLink RX3 52 (TX5 0).1 (TX5 0).2.1 (TX5 0).2.2.1 ∈ lw_good := memg 217 rfl rfl
set_option maxRecDepth 100000 in
theorem fl_RX9_69 : Cond.fieldLink RX9 69 (TX5 0).1 (TX5 0).2.1 (TX5 0).2.2.1 ∈ lw_good := memg 218 rfl rfl
set_option maxRecDepth 100000 in
theorem fl_RX0_133 : Cond.fieldLink RX0 133 (TX5 0).1 (TX5 0).2.1 (TX5 0).2.2.1 ∈ lw_good := memg 219 rfl rfl
set_option maxRecDepth 100000 in
theorem fl_RX5_13 : Cond.fieldLink RX5 13 (TX5 1).1 (TX5 1).2.1 (TX5 1).2.2.1 ∈ lw_good := memg 220 rfl rfl
set_option maxRecDepth 100000 in
theorem fl_RX8_41 : Cond.fieldLink RX8 41 (TX5 1).1 (TX5 1).2.1 (TX5 1).2.2.1 ∈ lw_good := memg 221 rfl rfl
set_option maxRecDepth 100000 in
theorem fl_RX3_36 : Cond.fieldLink RX3 36 (TX5 1).1 (TX5 1).2.1 (TX5 1).2.2.1 ∈ lw_good := memg 222 rfl rfl
set_option maxRecDepth 100000 in
theorem fl_RX9_66 : Cond.fieldLink RX9 66 (TX5 1).1 (TX5 1).2.1 (TX5 1).2.2.1 ∈ lw_good := memg 223 rfl rfl
set_option maxRecDepth 100000 in
theorem fl_RX0_137 : Cond.fieldLink RX0 137 (TX5 1).1 (TX5 1).2.1 (TX5 1).2.2.1 ∈ lw_good := memg 224 rfl rfl
set_option maxRecDepth 100000 in
theorem ac_boolean : Cond.arrayClass .boolean ∈ lw_good := memg 230 rfl rfl
set_option maxRecDepth 100000 in
theorem fl_RX9_10 : Cond.fieldLink RX9 10 (TX9 0).1 (TX9 0).2.1 (TX9 0).2.2.1 ∈ lw_good := memg 231 rfl rfl
set_option maxRecDepth 100000 in
theorem fl_RX0_130 : Cond.fieldLink RX0 130 (TX9 0).1 (TX9 0).2.1 (TX9 0).2.2.1 ∈ lw_good := memg 232 rfl rfl
set_option maxRecDepth 100000 in
theorem fl_RX11_139 : Cond.fieldLink RX11 139 (TX9 0).1 (TX9 0).2.1 (TX9 0).2.2.1 ∈ lw_good := memg 233 rfl rfl
set_option maxRecDepth 100000 in
theorem fl_RX9_16 : Cond.fieldLink RX9 16 (TX9 1).1 (TX9 1).2.1 (TX9 1).2.2.1 ∈ lw_good := memg 234 rfl rfl
set_option maxRecDepth 100000 in
theorem fl_RX11_147 : Cond.fieldLink RX11 147 (TX9 1).1 (TX9 1).2.1 (TX9 1).2.2.1 ∈ lw_good := memg 235 rfl rfl
set_option maxRecDepth 100000 in
theorem fl_RX9_21 : Cond.fieldLink RX9 21 (TX9 2).1 (TX9 2).2.1 (TX9 2).2.2.1 ∈ lw_good := memg 236 rfl rfl
set_option maxRecDepth 100000 in
theorem fl_RX9_25 : Cond.fieldLink RX9 25 (TX9 3).1 (TX9 3).2.1 (TX9 3).2.2.1 ∈ lw_good := memg 237 rfl rfl
set_option maxRecDepth 100000 in
theorem fl_RX9_29 : Cond.fieldLink RX9 29 (TX9 4).1 (TX9 4).2.1 (TX9 4).2.2.1 ∈ lw_good := memg 238 rfl rfl
set_option maxRecDepth 100000 in
theorem fl_RX9_32 : Cond.fieldLink RX9 32 (TX9 5).1 (TX9 5).2.1 (TX9 5).2.2.1 ∈ lw_good := memg 239 rfl rfl
set_option maxRecDepth 100000 in
theorem cl_RX0_48 : Cond.classLink RX0 48 RX5 ∈ lw_good := memg 253 rfl rfl
set_option maxRecDepth 100000 in
theorem mn_RX0_50 : Cond.methodLinkNest RX0 50 mX5_init.1 "RodBeam" ∈ lw_nest := memn 254 rfl rfl
set_option maxRecDepth 100000 in
theorem mn_RX0_64 : Cond.methodLinkNest RX0 64 mX7_init.1 "RodBeam" ∈ lw_nest := memn 256 rfl rfl
set_option maxRecDepth 100000 in
theorem ml_RX7_3 : Cond.methodLink RX7 3 objectInit ∈ lw_good := memg 259 rfl rfl
set_option maxRecDepth 100000 in
theorem fl_RX7_9 : Cond.fieldLink RX7 9 (TX7 0).1 (TX7 0).2.1 (TX7 0).2.2.1 ∈ lw_good := memg 260 rfl rfl
set_option maxRecDepth 100000 in
theorem fl_RX0_65 : Cond.fieldLink RX0 65 (TX7 0).1 (TX7 0).2.1 (TX7 0).2.2.1 ∈ lw_good := memg 261 rfl rfl
set_option maxRecDepth 100000 in
theorem fl_RX11_203 : Cond.fieldLink RX11 203 (TX7 0).1 (TX7 0).2.1 (TX7 0).2.2.1 ∈ lw_good := memg 262 rfl rfl
set_option maxRecDepth 100000 in
theorem fl_RX7_15 : Cond.fieldLink RX7 15 (TX7 1).1 (TX7 1).2.1 (TX7 1).2.2.1 ∈ lw_good := memg 263 rfl rfl
set_option maxRecDepth 100000 in
theorem fl_RX0_68 : Cond.fieldLink RX0 68 (TX7 1).1 (TX7 1).2.1 (TX7 1).2.2.1 ∈ lw_good := memg 264 rfl rfl
set_option maxRecDepth 100000 in
theorem fl_RX7_18 : Cond.fieldLink RX7 18 (TX7 2).1 (TX7 2).2.1 (TX7 2).2.2.1 ∈ lw_good := memg 265 rfl rfl
set_option maxRecDepth 100000 in
theorem fl_RX0_71 : Cond.fieldLink RX0 71 (TX7 2).1 (TX7 2).2.1 (TX7 2).2.2.1 ∈ lw_good := memg 266 rfl rfl
set_option maxRecDepth 100000 in
theorem fl_RX11_206 : Cond.fieldLink RX11 206 (TX7 2).1 (TX7 2).2.1 (TX7 2).2.2.1 ∈ lw_good := memg 267 rfl rfl
set_option maxRecDepth 100000 in
theorem fl_RX7_21 : Cond.fieldLink RX7 21 (TX7 3).1 (TX7 3).2.1 (TX7 3).2.2.1 ∈ lw_good := memg 268 rfl rfl
set_option maxRecDepth 100000 in
theorem fl_RX0_86 : Cond.fieldLink RX0 86 (TX7 3).1 (TX7 3).2.1 (TX7 3).2.2.1 ∈ lw_good := memg 269 rfl rfl
set_option maxRecDepth 100000 in
theorem fl_RX7_25 : Cond.fieldLink RX7 25 (TX7 4).1 (TX7 4).2.1 (TX7 4).2.2.1 ∈ lw_good := memg 270 rfl rfl
set_option maxRecDepth 100000 in
theorem fl_RX0_9 : Cond.fieldLink RX0 9 (TX0 0).1 (TX0 0).2.1 (TX0 0).2.2.1 ∈ lw_good := memg 282 rfl rfl
set_option maxRecDepth 100000 in
theorem fl_RX11_188 : Cond.fieldLink RX11 188 (TX0 0).1 (TX0 0).2.1 (TX0 0).2.2.1 ∈ lw_good := memg 283 rfl rfl
set_option maxRecDepth 100000 in
theorem fl_RX0_17 : Cond.fieldLink RX0 17 (TX0 1).1 (TX0 1).2.1 (TX0 1).2.2.1 ∈ lw_good := memg 284 rfl rfl
set_option maxRecDepth 100000 in
theorem fl_RX11_199 : Cond.fieldLink RX11 199 (TX0 1).1 (TX0 1).2.1 (TX0 1).2.2.1 ∈ lw_good := memg 285 rfl rfl
set_option maxRecDepth 100000 in
theorem fl_RX0_21 : Cond.fieldLink RX0 21 (TX0 2).1 (TX0 2).2.1 (TX0 2).2.2.1 ∈ lw_good := memg 286 rfl rfl
set_option maxRecDepth 100000 in
theorem fl_RX11_192 : Cond.fieldLink RX11 192 (TX0 2).1 (TX0 2).2.1 (TX0 2).2.2.1 ∈ lw_good := memg 287 rfl rfl
set_option maxRecDepth 100000 in
theorem fl_RX0_28 : Cond.fieldLink RX0 28 (TX0 3).1 (TX0 3).2.1 (TX0 3).2.2.1 ∈ lw_good := memg 288 rfl rfl
set_option maxRecDepth 100000 in
theorem fl_RX11_219 : Cond.fieldLink RX11 219 (TX0 3).1 (TX0 3).2.1 (TX0 3).2.2.1 ∈ lw_good := memg 289 rfl rfl
set_option maxRecDepth 100000 in
theorem fl_RX0_32 : Cond.fieldLink RX0 32 (TX0 4).1 (TX0 4).2.1 (TX0 4).2.2.1 ∈ lw_good := memg 290 rfl rfl
set_option maxRecDepth 100000 in
theorem fl_RX11_231 : Cond.fieldLink RX11 231 (TX0 4).1 (TX0 4).2.1 (TX0 4).2.2.1 ∈ lw_good := memg 291 rfl rfl
set_option maxRecDepth 100000 in
theorem fl_RX0_35 : Cond.fieldLink RX0 35 (TX0 5).1 (TX0 5).2.1 (TX0 5).2.2.1 ∈ lw_good := memg 292 rfl rfl
set_option maxRecDepth 100000 in
theorem fl_RX11_234 : Cond.fieldLink RX11 234 (TX0 5).1 (TX0 5).2.1 (TX0 5).2.2.1 ∈ lw_good := memg 293 rfl rfl
set_option maxRecDepth 100000 in
theorem fl_RX0_38 : Cond.fieldLink RX0 38 (TX0 6).1 (TX0 6).2.1 (TX0 6).2.2.1 ∈ lw_good := memg 294 rfl rfl
set_option maxRecDepth 100000 in
theorem fl_RX11_237 : Cond.fieldLink RX11 237 (TX0 6).1 (TX0 6).2.1 (TX0 6).2.2.1 ∈ lw_good := memg 295 rfl rfl
set_option maxRecDepth 100000 in
theorem fl_RX0_44 : Cond.fieldLink RX0 44 (TX0 7).1 (TX0 7).2.1 (TX0 7).2.2.1 ∈ lw_good := memg 296 rfl rfl
set_option maxRecDepth 100000 in
theorem fl_RX0_51 : Cond.fieldLink RX0 51 (TX0 8).1 (TX0 8).2.1 (TX0 8).2.2.1 ∈ lw_good := memg 297 rfl rfl
set_option maxRecDepth 100000 in
theorem fl_RX0_55 : Cond.fieldLink RX0 55 (TX0 9).1 (TX0 9).2.1 (TX0 9).2.2.1 ∈ lw_good := memg 298 rfl rfl
set_option maxRecDepth 100000 in
theorem fl_RX0_58 : Cond.fieldLink RX0 58 (TX0 10).1 (TX0 10).2.1 (TX0 10).2.2.1 ∈ lw_good := memg 299 rfl rfl
set_option maxRecDepth 100000 in
theorem fl_RX0_61 : Cond.fieldLink RX0 61 (TX0 11).1 (TX0 11).2.1 (TX0 11).2.2.1 ∈ lw_good := memg 300 rfl rfl
set_option maxRecDepth 100000 in
theorem cl_RX11_47 : Cond.classLink RX11 47 RX9 ∈ lw_good := memg 326 rfl rfl
set_option maxRecDepth 100000 in
theorem mn_RX11_49 : Cond.methodLinkNest RX11 49 mX9_init.1 "RodBeam" ∈ lw_nest := memn 327 rfl rfl
set_option maxRecDepth 100000 in
theorem cl_RX11_54 : Cond.classLink RX11 54 RX1 ∈ lw_good := memg 328 rfl rfl
set_option maxRecDepth 100000 in
theorem mn_RX11_56 : Cond.methodLinkNest RX11 56 mX1_init.1 "RodBeam" ∈ lw_nest := memn 330 rfl rfl
set_option maxRecDepth 100000 in
theorem ml_RX1_3 : Cond.methodLink RX1 3 objectInit ∈ lw_good := memg 333 rfl rfl
set_option maxRecDepth 100000 in
theorem cl_RX1_9 : Cond.classLink RX1 9 RX9 ∈ lw_good := memg 334 rfl rfl
set_option maxRecDepth 100000 in
theorem mn_RX1_11 : Cond.methodLinkNest RX1 11 mX9_init.1 "RodBeam" ∈ lw_nest := memn 335 rfl rfl
set_option maxRecDepth 100000 in
theorem fl_RX1_12 : Cond.fieldLink RX1 12 (TX1 0).1 (TX1 0).2.1 (TX1 0).2.2.1 ∈ lw_good := memg 336 rfl rfl
set_option maxRecDepth 100000 in
theorem fl_RX1_18 : Cond.fieldLink RX1 18 (TX1 1).1 (TX1 1).2.1 (TX1 1).2.2.1 ∈ lw_good := memg 337 rfl rfl
set_option maxRecDepth 100000 in
theorem fl_RX1_22 : Cond.fieldLink RX1 22 (TX1 2).1 (TX1 2).2.1 (TX1 2).2.2.1 ∈ lw_good := memg 338 rfl rfl
set_option maxRecDepth 100000 in
theorem fl_RX1_26 : Cond.fieldLink RX1 26 (TX1 3).1 (TX1 3).2.1 (TX1 3).2.2.1 ∈ lw_good := memg 339 rfl rfl
set_option maxRecDepth 100000 in
theorem fl_RX1_29 : Cond.fieldLink RX1 29 (TX1 4).1 (TX1 4).2.1 (TX1 4).2.2.1 ∈ lw_good := memg 340 rfl rfl
set_option maxRecDepth 100000 in
theorem fl_RX1_33 : Cond.fieldLink RX1 33 (TX1 5).1 (TX1 5).2.1 (TX1 5).2.2.1 ∈ lw_good := memg 341 rfl rfl
set_option maxRecDepth 100000 in
theorem fl_RX1_36 : Cond.fieldLink RX1 36 (TX1 6).1 (TX1 6).2.1 (TX1 6).2.2.1 ∈ lw_good := memg 342 rfl rfl
set_option maxRecDepth 100000 in
theorem fl_RX1_39 : Cond.fieldLink RX1 39 (TX1 7).1 (TX1 7).2.1 (TX1 7).2.2.1 ∈ lw_good := memg 343 rfl rfl
set_option maxRecDepth 100000 in
theorem ml_RX11_61 : Cond.methodLink RX11 61 mX4_init.1 ∈ lw_good := memg 362 rfl rfl
set_option maxRecDepth 100000 in
theorem ml_RX4_3 : Cond.methodLink RX4 3 objectInit ∈ lw_good := memg 365 rfl rfl
set_option maxRecDepth 100000 in
theorem ml_RX4_50 : Cond.methodLink RX4 50 mX4_begin.1 ∈ lw_good := memg 366 rfl rfl
set_option maxRecDepth 100000 in
theorem ml_RX4_66 : Cond.methodLink RX4 66 mX4_findEdges.1 ∈ lw_good := memg 370 rfl rfl
set_option maxRecDepth 100000 in
theorem ml_RX4_69 : Cond.methodLink RX4 69 mX4_area.1 ∈ lw_good := memg 374 rfl rfl
set_option maxRecDepth 100000 in
theorem ml_RX4_79 : Cond.methodLink RX4 79 mX4_isEdge.1 ∈ lw_good := memg 378 rfl rfl
set_option maxRecDepth 100000 in
theorem ml_RX4_83 : Cond.methodLink RX4 83 mX4_widthAbove.1 ∈ lw_good := memg 382 rfl rfl
set_option maxRecDepth 100000 in
theorem ml_RX4_87 : Cond.methodLink RX4 87 mX4_placeRods.1 ∈ lw_good := memg 386 rfl rfl
set_option maxRecDepth 100000 in
theorem fl_RX4_54 : Cond.fieldLink RX4 54 (TX4 0).1 (TX4 0).2.1 (TX4 0).2.2.1 ∈ lw_good := memg 390 rfl rfl
set_option maxRecDepth 100000 in
theorem fl_RX11_116 : Cond.fieldLink RX11 116 (TX4 0).1 (TX4 0).2.1 (TX4 0).2.2.1 ∈ lw_good := memg 391 rfl rfl
set_option maxRecDepth 100000 in
theorem fl_RX4_57 : Cond.fieldLink RX4 57 (TX4 1).1 (TX4 1).2.1 (TX4 1).2.2.1 ∈ lw_good := memg 392 rfl rfl
set_option maxRecDepth 100000 in
theorem fl_RX9_51 : Cond.fieldLink RX9 51 (TX4 1).1 (TX4 1).2.1 (TX4 1).2.2.1 ∈ lw_good := memg 393 rfl rfl
set_option maxRecDepth 100000 in
theorem fl_RX11_119 : Cond.fieldLink RX11 119 (TX4 1).1 (TX4 1).2.1 (TX4 1).2.2.1 ∈ lw_good := memg 394 rfl rfl
set_option maxRecDepth 100000 in
theorem fl_RX9_54 : Cond.fieldLink RX9 54 (TX4 2).1 (TX4 2).2.1 (TX4 2).2.2.1 ∈ lw_good := memg 395 rfl rfl
set_option maxRecDepth 100000 in
theorem fl_RX4_73 : Cond.fieldLink RX4 73 (TX4 2).1 (TX4 2).2.1 (TX4 2).2.2.1 ∈ lw_good := memg 396 rfl rfl
set_option maxRecDepth 100000 in
theorem fl_RX11_126 : Cond.fieldLink RX11 126 (TX4 2).1 (TX4 2).2.1 (TX4 2).2.2.1 ∈ lw_good := memg 397 rfl rfl
set_option maxRecDepth 100000 in
theorem fl_RX4_60 : Cond.fieldLink RX4 60 (TX4 3).1 (TX4 3).2.1 (TX4 3).2.2.1 ∈ lw_good := memg 398 rfl rfl
set_option maxRecDepth 100000 in
theorem fl_RX11_92 : Cond.fieldLink RX11 92 (TX4 3).1 (TX4 3).2.1 (TX4 3).2.2.1 ∈ lw_good := memg 399 rfl rfl
set_option maxRecDepth 100000 in
theorem fl_RX4_9 : Cond.fieldLink RX4 9 (TX4 4).1 (TX4 4).2.1 (TX4 4).2.2.1 ∈ lw_good := memg 400 rfl rfl
set_option maxRecDepth 100000 in
theorem fl_RX4_15 : Cond.fieldLink RX4 15 (TX4 5).1 (TX4 5).2.1 (TX4 5).2.2.1 ∈ lw_good := memg 401 rfl rfl
set_option maxRecDepth 100000 in
theorem fl_RX4_18 : Cond.fieldLink RX4 18 (TX4 6).1 (TX4 6).2.1 (TX4 6).2.2.1 ∈ lw_good := memg 402 rfl rfl
set_option maxRecDepth 100000 in
theorem fl_RX4_63 : Cond.fieldLink RX4 63 (TX4 7).1 (TX4 7).2.1 (TX4 7).2.2.1 ∈ lw_good := memg 403 rfl rfl
set_option maxRecDepth 100000 in
theorem fl_RX9_42 : Cond.fieldLink RX9 42 (TX4 7).1 (TX4 7).2.1 (TX4 7).2.2.1 ∈ lw_good := memg 404 rfl rfl
set_option maxRecDepth 100000 in
theorem fl_RX11_102 : Cond.fieldLink RX11 102 (TX4 7).1 (TX4 7).2.1 (TX4 7).2.2.1 ∈ lw_good := memg 405 rfl rfl
set_option maxRecDepth 100000 in
theorem fl_RX1_105 : Cond.fieldLink RX1 105 (TX4 7).1 (TX4 7).2.1 (TX4 7).2.2.1 ∈ lw_good := memg 406 rfl rfl
set_option maxRecDepth 100000 in
theorem fl_RX4_21 : Cond.fieldLink RX4 21 (TX4 8).1 (TX4 8).2.1 (TX4 8).2.2.1 ∈ lw_good := memg 407 rfl rfl
set_option maxRecDepth 100000 in
theorem fl_RX9_48 : Cond.fieldLink RX9 48 (TX4 8).1 (TX4 8).2.1 (TX4 8).2.2.1 ∈ lw_good := memg 408 rfl rfl
set_option maxRecDepth 100000 in
theorem fl_RX4_24 : Cond.fieldLink RX4 24 (TX4 9).1 (TX4 9).2.1 (TX4 9).2.2.1 ∈ lw_good := memg 409 rfl rfl
set_option maxRecDepth 100000 in
theorem fl_RX0_117 : Cond.fieldLink RX0 117 (TX4 9).1 (TX4 9).2.1 (TX4 9).2.2.1 ∈ lw_good := memg 410 rfl rfl
set_option maxRecDepth 100000 in
theorem fl_RX11_113 : Cond.fieldLink RX11 113 (TX4 9).1 (TX4 9).2.1 (TX4 9).2.2.1 ∈ lw_good := memg 411 rfl rfl
set_option maxRecDepth 100000 in
theorem fl_RX9_72 : Cond.fieldLink RX9 72 (TX4 10).1 (TX4 10).2.1 (TX4 10).2.2.1 ∈ lw_good := memg 412 rfl rfl
set_option maxRecDepth 100000 in
theorem fl_RX4_76 : Cond.fieldLink RX4 76 (TX4 10).1 (TX4 10).2.1 (TX4 10).2.2.1 ∈ lw_good := memg 413 rfl rfl
set_option maxRecDepth 100000 in
theorem fl_RX4_27 : Cond.fieldLink RX4 27 (TX4 11).1 (TX4 11).2.1 (TX4 11).2.2.1 ∈ lw_good := memg 414 rfl rfl
set_option maxRecDepth 100000 in
theorem fl_RX9_75 : Cond.fieldLink RX9 75 (TX4 11).1 (TX4 11).2.1 (TX4 11).2.2.1 ∈ lw_good := memg 415 rfl rfl
set_option maxRecDepth 100000 in
theorem fl_RX4_30 : Cond.fieldLink RX4 30 (TX4 12).1 (TX4 12).2.1 (TX4 12).2.2.1 ∈ lw_good := memg 416 rfl rfl
set_option maxRecDepth 100000 in
theorem fl_RX9_84 : Cond.fieldLink RX9 84 (TX4 12).1 (TX4 12).2.1 (TX4 12).2.2.1 ∈ lw_good := memg 417 rfl rfl
set_option maxRecDepth 100000 in
theorem fl_RX4_33 : Cond.fieldLink RX4 33 (TX4 13).1 (TX4 13).2.1 (TX4 13).2.2.1 ∈ lw_good := memg 418 rfl rfl
set_option maxRecDepth 100000 in
theorem fl_RX9_45 : Cond.fieldLink RX9 45 (TX4 13).1 (TX4 13).2.1 (TX4 13).2.2.1 ∈ lw_good := memg 419 rfl rfl
set_option maxRecDepth 100000 in
theorem fl_RX4_36 : Cond.fieldLink RX4 36 (TX4 14).1 (TX4 14).2.1 (TX4 14).2.2.1 ∈ lw_good := memg 420 rfl rfl
set_option maxRecDepth 100000 in
theorem fl_RX1_42 : Cond.fieldLink RX1 42 (TX4 14).1 (TX4 14).2.1 (TX4 14).2.2.1 ∈ lw_good := memg 421 rfl rfl
set_option maxRecDepth 100000 in
theorem fl_RX11_265 : Cond.fieldLink RX11 265 (TX4 14).1 (TX4 14).2.1 (TX4 14).2.2.1 ∈ lw_good := memg 422 rfl rfl
set_option maxRecDepth 100000 in
theorem fl_RX4_40 : Cond.fieldLink RX4 40 (TX4 15).1 (TX4 15).2.1 (TX4 15).2.2.1 ∈ lw_good := memg 423 rfl rfl
set_option maxRecDepth 100000 in
theorem fl_RX1_48 : Cond.fieldLink RX1 48 (TX4 15).1 (TX4 15).2.1 (TX4 15).2.2.1 ∈ lw_good := memg 424 rfl rfl
set_option maxRecDepth 100000 in
theorem fl_RX4_43 : Cond.fieldLink RX4 43 (TX4 16).1 (TX4 16).2.1 (TX4 16).2.2.1 ∈ lw_good := memg 425 rfl rfl
set_option maxRecDepth 100000 in
theorem fl_RX1_67 : Cond.fieldLink RX1 67 (TX4 16).1 (TX4 16).2.1 (TX4 16).2.2.1 ∈ lw_good := memg 426 rfl rfl
set_option maxRecDepth 100000 in
theorem fl_RX11_178 : Cond.fieldLink RX11 178 (TX4 16).1 (TX4 16).2.1 (TX4 16).2.2.1 ∈ lw_good := memg 427 rfl rfl
set_option maxRecDepth 100000 in
theorem fl_RX4_47 : Cond.fieldLink RX4 47 (TX4 17).1 (TX4 17).2.1 (TX4 17).2.2.1 ∈ lw_good := memg 428 rfl rfl
set_option maxRecDepth 100000 in
theorem fl_RX1_128 : Cond.fieldLink RX1 128 (TX4 17).1 (TX4 17).2.1 (TX4 17).2.2.1 ∈ lw_good := memg 429 rfl rfl
set_option maxRecDepth 100000 in
theorem fl_RX11_181 : Cond.fieldLink RX11 181 (TX4 17).1 (TX4 17).2.1 (TX4 17).2.2.1 ∈ lw_good := memg 430 rfl rfl
set_option maxRecDepth 100000 in
theorem fl_RX11_9 : Cond.fieldLink RX11 9 (TX11 0).1 (TX11 0).2.1 (TX11 0).2.2.1 ∈ lw_good := memg 468 rfl rfl
set_option maxRecDepth 100000 in
theorem fl_RX11_16 : Cond.fieldLink RX11 16 (TX11 1).1 (TX11 1).2.1 (TX11 1).2.2.1 ∈ lw_good := memg 469 rfl rfl
set_option maxRecDepth 100000 in
theorem fl_RX11_22 : Cond.fieldLink RX11 22 (TX11 2).1 (TX11 2).2.1 (TX11 2).2.2.1 ∈ lw_good := memg 470 rfl rfl
set_option maxRecDepth 100000 in
theorem fl_RX11_29 : Cond.fieldLink RX11 29 (TX11 3).1 (TX11 3).2.1 (TX11 3).2.2.1 ∈ lw_good := memg 471 rfl rfl
set_option maxRecDepth 100000 in
theorem fl_RX11_36 : Cond.fieldLink RX11 36 (TX11 4).1 (TX11 4).2.1 (TX11 4).2.2.1 ∈ lw_good := memg 472 rfl rfl
set_option maxRecDepth 100000 in
theorem fl_RX11_43 : Cond.fieldLink RX11 43 (TX11 5).1 (TX11 5).2.1 (TX11 5).2.2.1 ∈ lw_good := memg 473 rfl rfl
set_option maxRecDepth 100000 in
theorem fl_RX11_50 : Cond.fieldLink RX11 50 (TX11 6).1 (TX11 6).2.1 (TX11 6).2.2.1 ∈ lw_good := memg 474 rfl rfl
set_option maxRecDepth 100000 in
theorem fl_RX11_57 : Cond.fieldLink RX11 57 (TX11 7).1 (TX11 7).2.1 (TX11 7).2.2.1 ∈ lw_good := memg 475 rfl rfl
set_option maxRecDepth 100000 in
theorem ml_RL_13 : Cond.methodLink RL 13 mX11_status.1 ∈ lw_good := memg 493 rfl rfl
set_option maxRecDepth 100000 in
theorem ml_RL_18 : Cond.methodLink RL 18 mX11_out.1 ∈ lw_good := memg 497 rfl rfl
set_option maxRecDepth 100000 in
theorem ml_RL_23 : Cond.methodLink RL 23 mX11_stone.1 ∈ lw_good := memg 501 rfl rfl
set_option maxRecDepth 100000 in
theorem ml_RX11_69 : Cond.methodLink RX11 69 mX11_isSection.1 ∈ lw_good := memg 505 rfl rfl
set_option maxRecDepth 100000 in
theorem ml_RX11_76 : Cond.methodLink RX11 76 mX11_isFromTo.1 ∈ lw_good := memg 509 rfl rfl
set_option maxRecDepth 100000 in
theorem ml_RX11_73 : Cond.methodLink RX11 73 mX11_deny.1 ∈ lw_good := memg 512 rfl rfl
set_option maxRecDepth 100000 in
theorem ml_RX11_80 : Cond.methodLink RX11 80 mX4_begin.1 ∈ lw_good := memg 516 rfl rfl
set_option maxRecDepth 100000 in
theorem ml_RX11_84 : Cond.methodLink RX11 84 mX11_allow.1 ∈ lw_good := memg 517 rfl rfl
set_option maxRecDepth 100000 in
theorem ml_RL_28 : Cond.methodLink RL 28 mX11_band.1 ∈ lw_good := memg 521 rfl rfl
set_option maxRecDepth 100000 in
theorem ml_RX11_88 : Cond.methodLink RX11 88 mX11_refuse.1 ∈ lw_good := memg 525 rfl rfl
set_option maxRecDepth 100000 in
theorem ml_RX11_95 : Cond.methodLink RX11 95 mX4_addBand.1 ∈ lw_good := memg 529 rfl rfl
set_option maxRecDepth 100000 in
theorem ml_RX11_99 : Cond.methodLink RX11 99 mX11_give.1 ∈ lw_good := memg 533 rfl rfl
set_option maxRecDepth 100000 in
theorem ml_RL_33 : Cond.methodLink RL 33 mX11_rod.1 ∈ lw_good := memg 537 rfl rfl
set_option maxRecDepth 100000 in
theorem ml_RX11_105 : Cond.methodLink RX11 105 mX4_addRod.1 ∈ lw_good := memg 541 rfl rfl
set_option maxRecDepth 100000 in
theorem ml_RL_38 : Cond.methodLink RL 38 mX11_change.1 ∈ lw_good := memg 545 rfl rfl
set_option maxRecDepth 100000 in
theorem ml_RX11_109 : Cond.methodLink RX11 109 mX11_isRod.1 ∈ lw_good := memg 549 rfl rfl
set_option maxRecDepth 100000 in
theorem ml_RL_42 : Cond.methodLink RL 42 mX11_told.1 ∈ lw_good := memg 553 rfl rfl
set_option maxRecDepth 100000 in
theorem ml_RX11_122 : Cond.methodLink RX11 122 mX4_area.1 ∈ lw_good := memg 557 rfl rfl
set_option maxRecDepth 100000 in
theorem ml_RX11_129 : Cond.methodLink RX11 129 mX4_rodsTogether.1 ∈ lw_good := memg 558 rfl rfl
set_option maxRecDepth 100000 in
theorem ml_RL_47 : Cond.methodLink RL 47 mX11_strength.1 ∈ lw_good := memg 562 rfl rfl
set_option maxRecDepth 100000 in
theorem ml_RL_51 : Cond.methodLink RL 51 mX11_width.1 ∈ lw_good := memg 566 rfl rfl
set_option maxRecDepth 100000 in
theorem ml_RX11_132 : Cond.methodLink RX11 132 mX4_widthAbove.1 ∈ lw_good := memg 570 rfl rfl
set_option maxRecDepth 100000 in
theorem ml_RL_55 : Cond.methodLink RL 55 mX11_bend.1 ∈ lw_good := memg 571 rfl rfl
set_option maxRecDepth 100000 in
theorem ml_RX11_135 : Cond.methodLink RX11 135 mX11_walkTo.1 ∈ lw_good := memg 575 rfl rfl
set_option maxRecDepth 100000 in
theorem ml_RX11_150 : Cond.methodLink RX11 150 mX11_isNear.1 ∈ lw_good := memg 579 rfl rfl
set_option maxRecDepth 100000 in
theorem kc_RX11_248 : Cond.constant RX11 248 (Int32.ofInt (-1000000)) ∈ lw_good := memg 582 rfl rfl
set_option maxRecDepth 100000 in
theorem kc_RX11_249 : Cond.constant RX11 249 (Int32.ofInt (1000000)) ∈ lw_good := memg 583 rfl rfl
set_option maxRecDepth 100000 in
theorem ml_RX11_250 : Cond.methodLink RX11 250 mX9_arm.1 ∈ lw_good := memg 584 rfl rfl
set_option maxRecDepth 100000 in
theorem ml_RX9_36 : Cond.methodLink RX9 36 mJ7_fill_53178.1 ∈ lw_good := memg 588 rfl rfl
set_option maxRecDepth 100000 in
theorem kl_RX9_57 : Cond.constantLong RX9 57 (Int64.ofInt (2)) ∈ lw_good := memg 591 rfl rfl
set_option maxRecDepth 100000 in
theorem ml_RX11_254 : Cond.methodLink RX11 254 mX9_reaches.1 ∈ lw_good := memg 592 rfl rfl
set_option maxRecDepth 100000 in
theorem ml_RX11_257 : Cond.methodLink RX11 257 mX9_fill.1 ∈ lw_good := memg 596 rfl rfl
set_option maxRecDepth 100000 in
theorem ml_RX9_78 : Cond.methodLink RX9 78 mJ9_min_f86c9.1 ∈ lw_good := memg 600 rfl rfl
set_option maxRecDepth 100000 in
theorem ml_RX9_87 : Cond.methodLink RX9 87 mJ9_min_7cf53.1 ∈ lw_good := memg 603 rfl rfl
set_option maxRecDepth 100000 in
theorem ml_RX9_90 : Cond.methodLink RX9 90 mJ9_abs_0f7a4.1 ∈ lw_good := memg 606 rfl rfl
set_option maxRecDepth 100000 in
theorem ml_RX11_143 : Cond.methodLink RX11 143 mX11_giveShare.1 ∈ lw_good := memg 609 rfl rfl
set_option maxRecDepth 100000 in
theorem ml_RX11_240 : Cond.methodLink RX11 240 mX8_writeShare.1 ∈ lw_good := memg 613 rfl rfl
set_option maxRecDepth 100000 in
theorem ml_RX8_26 : Cond.methodLink RX8 26 mX5_shorten.1 ∈ lw_good := memg 617 rfl rfl
set_option maxRecDepth 100000 in
theorem mn_RX5_16 : Cond.methodLinkNest RX5 16 mX11_commonDivisor.1 "RodBeam" ∈ lw_nest := memn 621 rfl rfl
set_option maxRecDepth 100000 in
theorem ml_RX11_272 : Cond.methodLink RX11 272 mJ9_abs_067f4.1 ∈ lw_good := memg 624 rfl rfl
set_option maxRecDepth 100000 in
theorem ml_RX8_35 : Cond.methodLink RX8 35 mJ9_abs_067f4.1 ∈ lw_good := memg 627 rfl rfl
set_option maxRecDepth 100000 in
theorem ml_RX8_44 : Cond.methodLink RX8 44 mX3_put.1 ∈ lw_good := memg 628 rfl rfl
set_option maxRecDepth 100000 in
theorem ml_RX3_28 : Cond.methodLink RX3 28 mX10_put.1 ∈ lw_good := memg 632 rfl rfl
set_option maxRecDepth 100000 in
theorem kl_RX10_13 : Cond.constantLong RX10 13 (Int64.ofInt (1000000000)) ∈ lw_good := memg 636 rfl rfl
set_option maxRecDepth 100000 in
theorem ml_RX8_48 : Cond.methodLink RX8 48 mX8_writeRatio.1 ∈ lw_good := memg 637 rfl rfl
set_option maxRecDepth 100000 in
theorem ml_RX8_52 : Cond.methodLink RX8 52 mX8_write.1 ∈ lw_good := memg 641 rfl rfl
set_option maxRecDepth 100000 in
theorem ml_RX8_59 : Cond.methodLink RX8 59 mX8_writeWhole.1 ∈ lw_good := memg 645 rfl rfl
set_option maxRecDepth 100000 in
theorem kl_RX8_65 : Cond.constantLong RX8 65 (Int64.ofInt (100000000)) ∈ lw_good := memg 649 rfl rfl
set_option maxRecDepth 100000 in
theorem kl_RX8_71 : Cond.constantLong RX8 71 (Int64.ofInt (10)) ∈ lw_good := memg 650 rfl rfl
set_option maxRecDepth 100000 in
theorem kl_RX8_73 : Cond.constantLong RX8 73 (Int64.ofInt (48)) ∈ lw_good := memg 651 rfl rfl
set_option maxRecDepth 100000 in
theorem ml_RL_60 : Cond.methodLink RL 60 mX11_cut.1 ∈ lw_good := memg 652 rfl rfl
set_option maxRecDepth 100000 in
theorem ml_RL_64 : Cond.methodLink RL 64 mX11_borne.1 ∈ lw_good := memg 656 rfl rfl
set_option maxRecDepth 100000 in
theorem ml_RX11_153 : Cond.methodLink RX11 153 mX11_bears.1 ∈ lw_good := memg 660 rfl rfl
set_option maxRecDepth 100000 in
theorem ml_RX11_261 : Cond.methodLink RX11 261 mX9_bearsOn.1 ∈ lw_good := memg 664 rfl rfl
set_option maxRecDepth 100000 in
theorem ml_RX9_59 : Cond.methodLink RX9 59 mX9_reaches.1 ∈ lw_good := memg 668 rfl rfl
set_option maxRecDepth 100000 in
theorem ml_RX9_63 : Cond.methodLink RX9 63 mX9_fill.1 ∈ lw_good := memg 669 rfl rfl
set_option maxRecDepth 100000 in
theorem ml_RL_68 : Cond.methodLink RL 68 mX11_pair.1 ∈ lw_good := memg 670 rfl rfl
set_option maxRecDepth 100000 in
theorem ml_RX11_160 : Cond.methodLink RX11 160 mX11_forgetBests.1 ∈ lw_good := memg 674 rfl rfl
set_option maxRecDepth 100000 in
theorem ml_RX11_163 : Cond.methodLink RX11 163 mX2_add.1 ∈ lw_good := memg 678 rfl rfl
set_option maxRecDepth 100000 in
theorem ml_RL_72 : Cond.methodLink RL 72 mX11_clear.1 ∈ lw_good := memg 682 rfl rfl
set_option maxRecDepth 100000 in
theorem ml_RL_77 : Cond.methodLink RL 77 mX11_safe.1 ∈ lw_good := memg 686 rfl rfl
set_option maxRecDepth 100000 in
theorem ml_RL_81 : Cond.methodLink RL 81 mX11_size.1 ∈ lw_good := memg 690 rfl rfl
set_option maxRecDepth 100000 in
theorem ml_RX11_173 : Cond.methodLink RX11 173 mX6_add.1 ∈ lw_good := memg 694 rfl rfl
set_option maxRecDepth 100000 in
theorem ml_RL_85 : Cond.methodLink RL 85 mX11_best.1 ∈ lw_good := memg 698 rfl rfl
set_option maxRecDepth 100000 in
theorem ml_RX11_174 : Cond.methodLink RX11 174 mX1_findBest.1 ∈ lw_good := memg 702 rfl rfl
set_option maxRecDepth 100000 in
theorem ml_RX1_51 : Cond.methodLink RX1 51 mJ7_fill_53178.1 ∈ lw_good := memg 706 rfl rfl
set_option maxRecDepth 100000 in
theorem ml_RX1_57 : Cond.methodLink RX1 57 mX1_listAsks.1 ∈ lw_good := memg 707 rfl rfl
set_option maxRecDepth 100000 in
theorem ml_RX1_78 : Cond.methodLink RX1 78 mX9_arm.1 ∈ lw_good := memg 711 rfl rfl
set_option maxRecDepth 100000 in
theorem ml_RX1_93 : Cond.methodLink RX1 93 mX1_listAsk.1 ∈ lw_good := memg 712 rfl rfl
set_option maxRecDepth 100000 in
theorem ml_RX1_97 : Cond.methodLink RX1 97 mX9_bearsOn.1 ∈ lw_good := memg 716 rfl rfl
set_option maxRecDepth 100000 in
theorem ml_RX1_61 : Cond.methodLink RX1 61 mX6_strongest.1 ∈ lw_good := memg 717 rfl rfl
set_option maxRecDepth 100000 in
theorem ml_RX6_22 : Cond.methodLink RX6 22 mJ9_max_7cf53.1 ∈ lw_good := memg 721 rfl rfl
set_option maxRecDepth 100000 in
theorem kc_RX1_66 : Cond.constant RX1 66 (Int32.ofInt (60001)) ∈ lw_good := memg 724 rfl rfl
set_option maxRecDepth 100000 in
theorem ml_RX1_70 : Cond.methodLink RX1 70 mX1_bearsAll.1 ∈ lw_good := memg 725 rfl rfl
set_option maxRecDepth 100000 in
theorem ml_RX1_101 : Cond.methodLink RX1 101 mX1_putFirst.1 ∈ lw_good := memg 729 rfl rfl
set_option maxRecDepth 100000 in
theorem ml_RX1_74 : Cond.methodLink RX1 74 mX1_choose.1 ∈ lw_good := memg 733 rfl rfl
set_option maxRecDepth 100000 in
theorem ml_RX1_108 : Cond.methodLink RX1 108 mX1_keep.1 ∈ lw_good := memg 737 rfl rfl
set_option maxRecDepth 100000 in
theorem ml_RX1_131 : Cond.methodLink RX1 131 arraycopyName ∈ lw_good := memg 741 rfl rfl
set_option maxRecDepth 100000 in
theorem na_copy : Cond.native arraycopyName ∈ lw_good := memg 743 rfl rfl
set_option maxRecDepth 100000 in
theorem ml_RX1_112 : Cond.methodLink RX1 112 mX1_attempt.1 ∈ lw_good := memg 744 rfl rfl
set_option maxRecDepth 100000 in
theorem ml_RX1_117 : Cond.methodLink RX1 117 mX6_priceOf.1 ∈ lw_good := memg 748 rfl rfl
set_option maxRecDepth 100000 in
theorem ml_RX1_121 : Cond.methodLink RX1 121 mX6_isIdle.1 ∈ lw_good := memg 752 rfl rfl
set_option maxRecDepth 100000 in
theorem ml_RX6_28 : Cond.methodLink RX6 28 mX6_priceOf.1 ∈ lw_good := memg 756 rfl rfl
set_option maxRecDepth 100000 in
theorem ml_RX6_32 : Cond.methodLink RX6 32 mX6_strengthOf.1 ∈ lw_good := memg 757 rfl rfl
set_option maxRecDepth 100000 in
theorem ml_RX1_125 : Cond.methodLink RX1 125 mX6_strengthOf.1 ∈ lw_good := memg 761 rfl rfl
set_option maxRecDepth 100000 in
theorem ml_RL_89 : Cond.methodLink RL 89 mX11_chosen.1 ∈ lw_good := memg 762 rfl rfl
set_option maxRecDepth 100000 in
theorem ml_RL_93 : Cond.methodLink RL 93 mX11_take.1 ∈ lw_good := memg 766 rfl rfl
set_option maxRecDepth 100000 in
theorem ml_RX11_184 : Cond.methodLink RX11 184 mX11_carryOut.1 ∈ lw_good := memg 770 rfl rfl
set_option maxRecDepth 100000 in
theorem ml_RX11_269 : Cond.methodLink RX11 269 mX6_strengthOf.1 ∈ lw_good := memg 774 rfl rfl
set_option maxRecDepth 100000 in
theorem ml_RL_97 : Cond.methodLink RL 97 mX11_span.1 ∈ lw_good := memg 775 rfl rfl
set_option maxRecDepth 100000 in
theorem ml_RX11_189 : Cond.methodLink RX11 189 mX0_addSpan.1 ∈ lw_good := memg 779 rfl rfl
set_option maxRecDepth 100000 in
theorem ml_RL_101 : Cond.methodLink RL 101 mX11_away.1 ∈ lw_good := memg 783 rfl rfl
set_option maxRecDepth 100000 in
theorem ml_RL_105 : Cond.methodLink RL 105 mX11_hold.1 ∈ lw_good := memg 787 rfl rfl
set_option maxRecDepth 100000 in
theorem ml_RL_110 : Cond.methodLink RL 110 mX11_load.1 ∈ lw_good := memg 791 rfl rfl
set_option maxRecDepth 100000 in
theorem ml_RX11_196 : Cond.methodLink RX11 196 mX11_isSpan.1 ∈ lw_good := memg 795 rfl rfl
set_option maxRecDepth 100000 in
theorem ml_RX11_209 : Cond.methodLink RX11 209 mX7_hasLoadAt.1 ∈ lw_good := memg 799 rfl rfl
set_option maxRecDepth 100000 in
theorem ml_RX11_212 : Cond.methodLink RX11 212 mX7_addLoad.1 ∈ lw_good := memg 803 rfl rfl
set_option maxRecDepth 100000 in
theorem ml_RL_114 : Cond.methodLink RL 114 mX11_times.1 ∈ lw_good := memg 807 rfl rfl
set_option maxRecDepth 100000 in
theorem ml_RX11_215 : Cond.methodLink RX11 215 mX0_reckon.1 ∈ lw_good := memg 811 rfl rfl
set_option maxRecDepth 100000 in
theorem ml_RX0_90 : Cond.methodLink RX0 90 mX0_putSag.1 ∈ lw_good := memg 815 rfl rfl
set_option maxRecDepth 100000 in
theorem ml_RX0_122 : Cond.methodLink RX0 122 mX9_arm.1 ∈ lw_good := memg 819 rfl rfl
set_option maxRecDepth 100000 in
theorem ml_RX0_126 : Cond.methodLink RX0 126 mX9_fill.1 ∈ lw_good := memg 820 rfl rfl
set_option maxRecDepth 100000 in
theorem ml_RX0_140 : Cond.methodLink RX0 140 mX5_put.1 ∈ lw_good := memg 821 rfl rfl
set_option maxRecDepth 100000 in
theorem ml_RX0_94 : Cond.methodLink RX0 94 mX0_putSupport.1 ∈ lw_good := memg 825 rfl rfl
set_option maxRecDepth 100000 in
theorem ml_RX0_144 : Cond.methodLink RX0 144 mX0_putHog.1 ∈ lw_good := memg 829 rfl rfl
set_option maxRecDepth 100000 in
theorem ml_RX0_147 : Cond.methodLink RX0 147 mX5_isUnder.1 ∈ lw_good := memg 833 rfl rfl
set_option maxRecDepth 100000 in
theorem ml_RX0_98 : Cond.methodLink RX0 98 mX5_scale.1 ∈ lw_good := memg 837 rfl rfl
set_option maxRecDepth 100000 in
theorem ml_RX5_22 : Cond.methodLink RX5 22 mX5_shorten.1 ∈ lw_good := memg 841 rfl rfl
set_option maxRecDepth 100000 in
theorem ml_RX0_102 : Cond.methodLink RX0 102 mX5_plus.1 ∈ lw_good := memg 842 rfl rfl
set_option maxRecDepth 100000 in
theorem ml_RX0_106 : Cond.methodLink RX0 106 mX3_putSum.1 ∈ lw_good := memg 846 rfl rfl
set_option maxRecDepth 100000 in
theorem mn_RX3_41 : Cond.methodLinkNest RX3 41 mX11_commonDivisor.1 "RodBeam" ∈ lw_nest := memn 850 rfl rfl
set_option maxRecDepth 100000 in
theorem ml_RX3_47 : Cond.methodLink RX3 47 mJ9_max_f86c9.1 ∈ lw_good := memg 851 rfl rfl
set_option maxRecDepth 100000 in
theorem ml_RX3_54 : Cond.methodLink RX3 54 mX10_product.1 ∈ lw_good := memg 854 rfl rfl
set_option maxRecDepth 100000 in
theorem ml_RX10_21 : Cond.methodLink RX10 21 mJ7_fill_d0a16.1 ∈ lw_good := memg 858 rfl rfl
set_option maxRecDepth 100000 in
theorem ml_RX3_58 : Cond.methodLink RX3 58 mX10_plus.1 ∈ lw_good := memg 861 rfl rfl
set_option maxRecDepth 100000 in
theorem ml_RX3_61 : Cond.methodLink RX3 61 mX10_restBy.1 ∈ lw_good := memg 865 rfl rfl
set_option maxRecDepth 100000 in
theorem ml_RX3_65 : Cond.methodLink RX3 65 mX10_divide.1 ∈ lw_good := memg 869 rfl rfl
set_option maxRecDepth 100000 in
theorem ml_RX0_110 : Cond.methodLink RX0 110 mX7_freeTimesLength.1 ∈ lw_good := memg 873 rfl rfl
set_option maxRecDepth 100000 in
theorem ml_RX7_28 : Cond.methodLink RX7 28 mJ9_min_7cf53.1 ∈ lw_good := memg 877 rfl rfl
set_option maxRecDepth 100000 in
theorem ml_RX7_34 : Cond.methodLink RX7 34 mJ9_max_7cf53.1 ∈ lw_good := memg 878 rfl rfl
set_option maxRecDepth 100000 in
theorem ml_RX0_114 : Cond.methodLink RX0 114 mX3_divide.1 ∈ lw_good := memg 879 rfl rfl
set_option maxRecDepth 100000 in
theorem ml_RX3_32 : Cond.methodLink RX3 32 mX10_copy.1 ∈ lw_good := memg 883 rfl rfl
set_option maxRecDepth 100000 in
theorem ml_RX10_15 : Cond.methodLink RX10 15 arraycopyName ∈ lw_good := memg 887 rfl rfl
set_option maxRecDepth 100000 in
theorem ml_RX11_223 : Cond.methodLink RX11 223 mX11_giveRatio.1 ∈ lw_good := memg 888 rfl rfl
set_option maxRecDepth 100000 in
theorem ml_RX11_244 : Cond.methodLink RX11 244 mX8_writeRatio.1 ∈ lw_good := memg 892 rfl rfl
set_option maxRecDepth 100000 in
theorem ml_RL_118 : Cond.methodLink RL 118 mX11_factor.1 ∈ lw_good := memg 893 rfl rfl
set_option maxRecDepth 100000 in
theorem ml_RX11_227 : Cond.methodLink RX11 227 mX0_reckonLeast.1 ∈ lw_good := memg 897 rfl rfl
set_option maxRecDepth 100000 in
theorem ml_RX0_74 : Cond.methodLink RX0 74 mX0_reckon.1 ∈ lw_good := memg 901 rfl rfl
set_option maxRecDepth 100000 in
theorem ml_RX0_78 : Cond.methodLink RX0 78 mX3_isUnder.1 ∈ lw_good := memg 902 rfl rfl
set_option maxRecDepth 100000 in
theorem ml_RX3_68 : Cond.methodLink RX3 68 mX10_isUnder.1 ∈ lw_good := memg 906 rfl rfl
set_option maxRecDepth 100000 in
theorem ml_RX0_82 : Cond.methodLink RX0 82 mX3_copy.1 ∈ lw_good := memg 910 rfl rfl
set_option maxRecDepth 100000 in
theorem ml_RL_122 : Cond.methodLink RL 122 mX11_weakest.1 ∈ lw_good := memg 914 rfl rfl
set_option maxRecDepth 100000 in
theorem cl_RL_10 : Cond.classLink RL 10 RX12 ∈ lw_good := memg 918 rfl rfl
set_option maxRecDepth 100000 in
theorem ml_RL_12 : Cond.methodLink RL 12 mX12_init.1 ∈ lw_good := memg 920 rfl rfl
set_option maxRecDepth 100000 in
theorem ml_RX12_1 : Cond.methodLink RX12 1 objectInit ∈ lw_good := memg 923 rfl rfl
set_option maxRecDepth 100000 in
theorem fl_RX12_89 : Cond.fieldLink RX12 89 (TX12 0).1 (TX12 0).2.1 (TX12 0).2.2.1 ∈ lw_good := memg 924 rfl rfl
set_option maxRecDepth 100000 in
theorem fl_RX12_7 : Cond.fieldLink RX12 7 (TX12 1).1 (TX12 1).2.1 (TX12 1).2.2.1 ∈ lw_good := memg 925 rfl rfl
set_option maxRecDepth 100000 in
theorem fl_RX12_93 : Cond.fieldLink RX12 93 (TX12 2).1 (TX12 2).2.1 (TX12 2).2.2.1 ∈ lw_good := memg 926 rfl rfl
set_option maxRecDepth 100000 in
theorem fl_RX12_13 : Cond.fieldLink RX12 13 (TX12 3).1 (TX12 3).2.1 (TX12 3).2.2.1 ∈ lw_good := memg 927 rfl rfl
set_option maxRecDepth 100000 in
theorem fl_RX12_16 : Cond.fieldLink RX12 16 (TX12 4).1 (TX12 4).2.1 (TX12 4).2.2.1 ∈ lw_good := memg 928 rfl rfl
set_option maxRecDepth 100000 in
theorem fl_RX12_19 : Cond.fieldLink RX12 19 (TX12 5).1 (TX12 5).2.1 (TX12 5).2.2.1 ∈ lw_good := memg 929 rfl rfl
set_option maxRecDepth 100000 in
theorem fl_RX12_135 : Cond.fieldLink RX12 135 (TX12 6).1 (TX12 6).2.1 (TX12 6).2.2.1 ∈ lw_good := memg 930 rfl rfl
set_option maxRecDepth 100000 in
theorem fl_RX12_138 : Cond.fieldLink RX12 138 (TX12 7).1 (TX12 7).2.1 (TX12 7).2.2.1 ∈ lw_good := memg 931 rfl rfl
set_option maxRecDepth 100000 in
theorem fl_RX12_22 : Cond.fieldLink RX12 22 (TX12 8).1 (TX12 8).2.1 (TX12 8).2.2.1 ∈ lw_good := memg 932 rfl rfl
set_option maxRecDepth 100000 in
theorem fl_RX12_160 : Cond.fieldLink RX12 160 (TX12 9).1 (TX12 9).2.1 (TX12 9).2.2.1 ∈ lw_good := memg 933 rfl rfl
set_option maxRecDepth 100000 in
theorem fl_RX12_25 : Cond.fieldLink RX12 25 (TX12 10).1 (TX12 10).2.1 (TX12 10).2.2.1 ∈ lw_good := memg 934 rfl rfl
set_option maxRecDepth 100000 in
theorem fl_RX12_28 : Cond.fieldLink RX12 28 (TX12 11).1 (TX12 11).2.1 (TX12 11).2.2.1 ∈ lw_good := memg 935 rfl rfl
set_option maxRecDepth 100000 in
theorem fl_RX12_31 : Cond.fieldLink RX12 31 (TX12 12).1 (TX12 12).2.1 (TX12 12).2.2.1 ∈ lw_good := memg 936 rfl rfl
set_option maxRecDepth 100000 in
theorem fl_RX12_34 : Cond.fieldLink RX12 34 (TX12 13).1 (TX12 13).2.1 (TX12 13).2.2.1 ∈ lw_good := memg 937 rfl rfl
set_option maxRecDepth 100000 in
theorem fl_RX12_37 : Cond.fieldLink RX12 37 (TX12 14).1 (TX12 14).2.1 (TX12 14).2.2.1 ∈ lw_good := memg 938 rfl rfl
set_option maxRecDepth 100000 in
theorem fl_RX12_40 : Cond.fieldLink RX12 40 (TX12 15).1 (TX12 15).2.1 (TX12 15).2.2.1 ∈ lw_good := memg 939 rfl rfl
set_option maxRecDepth 100000 in
theorem fl_RX12_43 : Cond.fieldLink RX12 43 (TX12 16).1 (TX12 16).2.1 (TX12 16).2.2.1 ∈ lw_good := memg 940 rfl rfl
set_option maxRecDepth 100000 in
theorem fl_RX12_46 : Cond.fieldLink RX12 46 (TX12 17).1 (TX12 17).2.1 (TX12 17).2.2.1 ∈ lw_good := memg 941 rfl rfl
set_option maxRecDepth 100000 in
theorem fl_RX12_49 : Cond.fieldLink RX12 49 (TX12 18).1 (TX12 18).2.1 (TX12 18).2.2.1 ∈ lw_good := memg 942 rfl rfl
set_option maxRecDepth 100000 in
theorem fl_RX12_211 : Cond.fieldLink RX12 211 (TX12 19).1 (TX12 19).2.1 (TX12 19).2.2.1 ∈ lw_good := memg 943 rfl rfl
set_option maxRecDepth 100000 in
theorem fl_RX12_215 : Cond.fieldLink RX12 215 (TX12 20).1 (TX12 20).2.1 (TX12 20).2.2.1 ∈ lw_good := memg 944 rfl rfl
set_option maxRecDepth 100000 in
theorem fl_RX12_218 : Cond.fieldLink RX12 218 (TX12 21).1 (TX12 21).2.1 (TX12 21).2.2.1 ∈ lw_good := memg 945 rfl rfl
set_option maxRecDepth 100000 in
theorem fl_RX12_221 : Cond.fieldLink RX12 221 (TX12 22).1 (TX12 22).2.1 (TX12 22).2.2.1 ∈ lw_good := memg 946 rfl rfl
set_option maxRecDepth 100000 in
theorem fl_RX12_52 : Cond.fieldLink RX12 52 (TX12 23).1 (TX12 23).2.1 (TX12 23).2.2.1 ∈ lw_good := memg 947 rfl rfl
set_option maxRecDepth 100000 in
theorem fl_RX12_55 : Cond.fieldLink RX12 55 (TX12 24).1 (TX12 24).2.1 (TX12 24).2.2.1 ∈ lw_good := memg 948 rfl rfl
set_option maxRecDepth 100000 in
theorem fl_RX12_58 : Cond.fieldLink RX12 58 (TX12 25).1 (TX12 25).2.1 (TX12 25).2.2.1 ∈ lw_good := memg 949 rfl rfl
set_option maxRecDepth 100000 in
theorem fl_RX12_61 : Cond.fieldLink RX12 61 (TX12 26).1 (TX12 26).2.1 (TX12 26).2.2.1 ∈ lw_good := memg 950 rfl rfl
set_option maxRecDepth 100000 in
theorem fl_RX12_246 : Cond.fieldLink RX12 246 (TX12 27).1 (TX12 27).2.1 (TX12 27).2.2.1 ∈ lw_good := memg 951 rfl rfl
set_option maxRecDepth 100000 in
theorem fl_RX12_252 : Cond.fieldLink RX12 252 (TX12 28).1 (TX12 28).2.1 (TX12 28).2.2.1 ∈ lw_good := memg 952 rfl rfl
set_option maxRecDepth 100000 in
theorem fl_RX12_64 : Cond.fieldLink RX12 64 (TX12 29).1 (TX12 29).2.1 (TX12 29).2.2.1 ∈ lw_good := memg 953 rfl rfl
set_option maxRecDepth 100000 in
theorem fl_RX12_255 : Cond.fieldLink RX12 255 (TX12 30).1 (TX12 30).2.1 (TX12 30).2.2.1 ∈ lw_good := memg 954 rfl rfl
set_option maxRecDepth 100000 in
theorem fl_RX12_67 : Cond.fieldLink RX12 67 (TX12 31).1 (TX12 31).2.1 (TX12 31).2.2.1 ∈ lw_good := memg 955 rfl rfl
set_option maxRecDepth 100000 in
theorem fl_RX12_70 : Cond.fieldLink RX12 70 (TX12 32).1 (TX12 32).2.1 (TX12 32).2.2.1 ∈ lw_good := memg 956 rfl rfl
set_option maxRecDepth 100000 in
theorem fl_RX12_73 : Cond.fieldLink RX12 73 (TX12 33).1 (TX12 33).2.1 (TX12 33).2.2.1 ∈ lw_good := memg 957 rfl rfl
set_option maxRecDepth 100000 in
theorem fl_RX12_76 : Cond.fieldLink RX12 76 (TX12 34).1 (TX12 34).2.1 (TX12 34).2.2.1 ∈ lw_good := memg 958 rfl rfl
set_option maxRecDepth 100000 in
theorem fl_RX12_79 : Cond.fieldLink RX12 79 (TX12 35).1 (TX12 35).2.1 (TX12 35).2.2.1 ∈ lw_good := memg 959 rfl rfl
set_option maxRecDepth 100000 in
theorem fl_RX12_82 : Cond.fieldLink RX12 82 (TX12 36).1 (TX12 36).2.1 (TX12 36).2.2.1 ∈ lw_good := memg 960 rfl rfl
set_option maxRecDepth 100000 in
theorem fl_RX12_261 : Cond.fieldLink RX12 261 (TX12 37).1 (TX12 37).2.1 (TX12 37).2.2.1 ∈ lw_good := memg 961 rfl rfl
set_option maxRecDepth 100000 in
theorem fl_RX12_267 : Cond.fieldLink RX12 267 (TX12 38).1 (TX12 38).2.1 (TX12 38).2.2.1 ∈ lw_good := memg 962 rfl rfl
set_option maxRecDepth 100000 in
theorem fl_RX12_270 : Cond.fieldLink RX12 270 (TX12 39).1 (TX12 39).2.1 (TX12 39).2.2.1 ∈ lw_good := memg 963 rfl rfl
set_option maxRecDepth 100000 in
theorem fl_RX12_287 : Cond.fieldLink RX12 287 (TX12 40).1 (TX12 40).2.1 (TX12 40).2.2.1 ∈ lw_good := memg 964 rfl rfl
set_option maxRecDepth 100000 in
theorem fl_RX12_296 : Cond.fieldLink RX12 296 (TX12 41).1 (TX12 41).2.1 (TX12 41).2.2.1 ∈ lw_good := memg 965 rfl rfl
set_option maxRecDepth 100000 in
theorem fl_RX12_302 : Cond.fieldLink RX12 302 (TX12 42).1 (TX12 42).2.1 (TX12 42).2.2.1 ∈ lw_good := memg 966 rfl rfl
set_option maxRecDepth 100000 in
theorem fl_RX12_290 : Cond.fieldLink RX12 290 (TX12 43).1 (TX12 43).2.1 (TX12 43).2.2.1 ∈ lw_good := memg 967 rfl rfl
set_option maxRecDepth 100000 in
theorem fl_RX12_299 : Cond.fieldLink RX12 299 (TX12 44).1 (TX12 44).2.1 (TX12 44).2.2.1 ∈ lw_good := memg 968 rfl rfl
set_option maxRecDepth 100000 in
theorem fl_RX12_305 : Cond.fieldLink RX12 305 (TX12 45).1 (TX12 45).2.1 (TX12 45).2.2.1 ∈ lw_good := memg 969 rfl rfl
set_option maxRecDepth 100000 in
theorem fl_RX12_308 : Cond.fieldLink RX12 308 (TX12 46).1 (TX12 46).2.1 (TX12 46).2.2.1 ∈ lw_good := memg 970 rfl rfl
set_option maxRecDepth 100000 in
theorem fl_RX12_314 : Cond.fieldLink RX12 314 (TX12 47).1 (TX12 47).2.1 (TX12 47).2.2.1 ∈ lw_good := memg 971 rfl rfl
set_option maxRecDepth 100000 in
theorem fl_RX12_317 : Cond.fieldLink RX12 317 (TX12 48).1 (TX12 48).2.1 (TX12 48).2.2.1 ∈ lw_good := memg 972 rfl rfl
set_option maxRecDepth 100000 in
theorem fl_RX12_86 : Cond.fieldLink RX12 86 (TX12 49).1 (TX12 49).2.1 (TX12 49).2.2.1 ∈ lw_good := memg 973 rfl rfl
set_option maxRecDepth 100000 in
theorem fl_RX12_323 : Cond.fieldLink RX12 323 (TX12 50).1 (TX12 50).2.1 (TX12 50).2.2.1 ∈ lw_good := memg 974 rfl rfl
set_option maxRecDepth 100000 in
theorem ml_RL_17 : Cond.methodLink RL 17 mX12_status.1 ∈ lw_good := memg 1078 rfl rfl
set_option maxRecDepth 100000 in
theorem ml_RL_22 : Cond.methodLink RL 22 mX12_out.1 ∈ lw_good := memg 1082 rfl rfl
set_option maxRecDepth 100000 in
theorem ml_RL_27 : Cond.methodLink RL 27 mX12_stone.1 ∈ lw_good := memg 1086 rfl rfl
set_option maxRecDepth 100000 in
theorem ml_RX12_177 : Cond.methodLink RX12 177 mX12_isSection.1 ∈ lw_good := memg 1090 rfl rfl
set_option maxRecDepth 100000 in
theorem ml_RX12_181 : Cond.methodLink RX12 181 mX12_is.1 ∈ lw_good := memg 1093 rfl rfl
set_option maxRecDepth 100000 in
theorem ml_RL_32 : Cond.methodLink RL 32 mX12_band.1 ∈ lw_good := memg 1097 rfl rfl
set_option maxRecDepth 100000 in
theorem ml_RX12_184 : Cond.methodLink RX12 184 mX12_refuse.1 ∈ lw_good := memg 1101 rfl rfl
set_option maxRecDepth 100000 in
theorem ml_RL_37 : Cond.methodLink RL 37 mX12_rod.1 ∈ lw_good := memg 1105 rfl rfl
set_option maxRecDepth 100000 in
theorem ml_RL_41 : Cond.methodLink RL 41 mX12_change.1 ∈ lw_good := memg 1109 rfl rfl
set_option maxRecDepth 100000 in
theorem ml_RX12_187 : Cond.methodLink RX12 187 mX12_isRod.1 ∈ lw_good := memg 1113 rfl rfl
set_option maxRecDepth 100000 in
theorem ml_RL_46 : Cond.methodLink RL 46 mX12_told.1 ∈ lw_good := memg 1117 rfl rfl
set_option maxRecDepth 100000 in
theorem ml_RX12_195 : Cond.methodLink RX12 195 mX12_asTold.1 ∈ lw_good := memg 1121 rfl rfl
set_option maxRecDepth 100000 in
theorem ml_RX12_198 : Cond.methodLink RX12 198 mX12_greatest.1 ∈ lw_good := memg 1125 rfl rfl
set_option maxRecDepth 100000 in
theorem ml_RX12_191 : Cond.methodLink RX12 191 mX12_pulls.1 ∈ lw_good := memg 1129 rfl rfl
set_option maxRecDepth 100000 in
theorem ml_RL_50 : Cond.methodLink RL 50 mX12_strength.1 ∈ lw_good := memg 1133 rfl rfl
set_option maxRecDepth 100000 in
theorem ml_RL_54 : Cond.methodLink RL 54 mX12_width.1 ∈ lw_good := memg 1137 rfl rfl
set_option maxRecDepth 100000 in
theorem ml_RL_59 : Cond.methodLink RL 59 mX12_bend.1 ∈ lw_good := memg 1141 rfl rfl
set_option maxRecDepth 100000 in
theorem ml_RX12_232 : Cond.methodLink RX12 232 mX12_wrong.1 ∈ lw_good := memg 1145 rfl rfl
set_option maxRecDepth 100000 in
theorem ml_RX12_226 : Cond.methodLink RX12 226 mX12_isNumber.1 ∈ lw_good := memg 1149 rfl rfl
set_option maxRecDepth 100000 in
theorem kc_RX12_224 : Cond.constant RX12 224 (Int32.ofInt (-1000000)) ∈ lw_good := memg 1152 rfl rfl
set_option maxRecDepth 100000 in
theorem kc_RX12_225 : Cond.constant RX12 225 (Int32.ofInt (1000000)) ∈ lw_good := memg 1153 rfl rfl
set_option maxRecDepth 100000 in
theorem ml_RX12_229 : Cond.methodLink RX12 229 mX12_isPush.1 ∈ lw_good := memg 1154 rfl rfl
set_option maxRecDepth 100000 in
theorem ml_RX12_235 : Cond.methodLink RX12 235 mX12_go.1 ∈ lw_good := memg 1158 rfl rfl
set_option maxRecDepth 100000 in
theorem kl_RX12_201 : Cond.constantLong RX12 201 (Int64.ofInt (2)) ∈ lw_good := memg 1162 rfl rfl
set_option maxRecDepth 100000 in
theorem ml_RX12_203 : Cond.methodLink RX12 203 mX12_at.1 ∈ lw_good := memg 1163 rfl rfl
set_option maxRecDepth 100000 in
theorem ml_RX12_207 : Cond.methodLink RX12 207 mX12_found.1 ∈ lw_good := memg 1167 rfl rfl
set_option maxRecDepth 100000 in
theorem ml_RX12_125 : Cond.methodLink RX12 125 mX12_whole.1 ∈ lw_good := memg 1171 rfl rfl
set_option maxRecDepth 100000 in
theorem ml_RX12_96 : Cond.methodLink RX12 96 mX12_room.1 ∈ lw_good := memg 1175 rfl rfl
set_option maxRecDepth 100000 in
theorem kl_RX12_100 : Cond.constantLong RX12 100 (Int64.ofInt (1073741823)) ∈ lw_good := memg 1179 rfl rfl
set_option maxRecDepth 100000 in
theorem ml_RX12_102 : Cond.methodLink RX12 102 mX12_done.1 ∈ lw_good := memg 1180 rfl rfl
set_option maxRecDepth 100000 in
theorem ml_RX12_239 : Cond.methodLink RX12 239 mX12_tells.1 ∈ lw_good := memg 1184 rfl rfl
set_option maxRecDepth 100000 in
theorem ml_RX12_168 : Cond.methodLink RX12 168 mX12_common.1 ∈ lw_good := memg 1188 rfl rfl
set_option maxRecDepth 100000 in
theorem ml_RX12_106 : Cond.methodLink RX12 106 mX12_places.1 ∈ lw_good := memg 1192 rfl rfl
set_option maxRecDepth 100000 in
theorem ml_RX12_115 : Cond.methodLink RX12 115 mJ9_max_7cf53.1 ∈ lw_good := memg 1196 rfl rfl
set_option maxRecDepth 100000 in
theorem ml_RX12_157 : Cond.methodLink RX12 157 mX12_put.1 ∈ lw_good := memg 1197 rfl rfl
set_option maxRecDepth 100000 in
theorem ml_RX12_153 : Cond.methodLink RX12 153 mX12_divide.1 ∈ lw_good := memg 1201 rfl rfl
set_option maxRecDepth 100000 in
theorem ml_RX12_122 : Cond.methodLink RX12 122 mX12_compareSizes.1 ∈ lw_good := memg 1205 rfl rfl
set_option maxRecDepth 100000 in
theorem ml_RX12_141 : Cond.methodLink RX12 141 mX12_divideShort.1 ∈ lw_good := memg 1209 rfl rfl
set_option maxRecDepth 100000 in
theorem kc_RX12_145 : Cond.constant RX12 145 (Int32.ofInt (536870912)) ∈ lw_good := memg 1213 rfl rfl
set_option maxRecDepth 100000 in
theorem kc_RX12_121 : Cond.constant RX12 121 (Int32.ofInt (1073741823)) ∈ lw_good := memg 1214 rfl rfl
set_option maxRecDepth 100000 in
theorem ml_RX12_146 : Cond.methodLink RX12 146 mX12_step.1 ∈ lw_good := memg 1215 rfl rfl
set_option maxRecDepth 100000 in
theorem ml_RX12_149 : Cond.methodLink RX12 149 mJ9_min_f86c9.1 ∈ lw_good := memg 1219 rfl rfl
set_option maxRecDepth 100000 in
theorem ml_RX12_171 : Cond.methodLink RX12 171 mX12_divided.1 ∈ lw_good := memg 1220 rfl rfl
set_option maxRecDepth 100000 in
theorem ml_RX12_112 : Cond.methodLink RX12 112 mX12_sign.1 ∈ lw_good := memg 1224 rfl rfl
set_option maxRecDepth 100000 in
theorem ml_RX12_129 : Cond.methodLink RX12 129 mX12_turned.1 ∈ lw_good := memg 1228 rfl rfl
set_option maxRecDepth 100000 in
theorem ml_RX12_109 : Cond.methodLink RX12 109 mX12_copy.1 ∈ lw_good := memg 1232 rfl rfl
set_option maxRecDepth 100000 in
theorem ml_RX12_174 : Cond.methodLink RX12 174 mX12_tellsNumber.1 ∈ lw_good := memg 1236 rfl rfl
set_option maxRecDepth 100000 in
theorem ml_RX12_163 : Cond.methodLink RX12 163 mX12_tells0.1 ∈ lw_good := memg 1240 rfl rfl
set_option maxRecDepth 100000 in
theorem kl_RX12_166 : Cond.constantLong RX12 166 (Int64.ofInt (10)) ∈ lw_good := memg 1244 rfl rfl
set_option maxRecDepth 100000 in
theorem ml_RL_63 : Cond.methodLink RL 63 mX12_cut.1 ∈ lw_good := memg 1245 rfl rfl
set_option maxRecDepth 100000 in
theorem ml_RL_67 : Cond.methodLink RL 67 mX12_borne.1 ∈ lw_good := memg 1249 rfl rfl
set_option maxRecDepth 100000 in
theorem ml_RX12_242 : Cond.methodLink RX12 242 mX12_bears.1 ∈ lw_good := memg 1253 rfl rfl
set_option maxRecDepth 100000 in
theorem ml_RL_71 : Cond.methodLink RL 71 mX12_pair.1 ∈ lw_good := memg 1257 rfl rfl
set_option maxRecDepth 100000 in
theorem ml_RL_76 : Cond.methodLink RL 76 mX12_clear.1 ∈ lw_good := memg 1261 rfl rfl
set_option maxRecDepth 100000 in
theorem ml_RL_80 : Cond.methodLink RL 80 mX12_safe.1 ∈ lw_good := memg 1265 rfl rfl
set_option maxRecDepth 100000 in
theorem ml_RX12_249 : Cond.methodLink RX12 249 mX12_fails.1 ∈ lw_good := memg 1269 rfl rfl
set_option maxRecDepth 100000 in
theorem ml_RL_84 : Cond.methodLink RL 84 mX12_size.1 ∈ lw_good := memg 1273 rfl rfl
set_option maxRecDepth 100000 in
theorem ml_RL_88 : Cond.methodLink RL 88 mX12_best.1 ∈ lw_good := memg 1277 rfl rfl
set_option maxRecDepth 100000 in
theorem ml_RX12_258 : Cond.methodLink RX12 258 mX12_choose.1 ∈ lw_good := memg 1281 rfl rfl
set_option maxRecDepth 100000 in
theorem ml_RL_92 : Cond.methodLink RL 92 mX12_chosen.1 ∈ lw_good := memg 1285 rfl rfl
set_option maxRecDepth 100000 in
theorem ml_RL_96 : Cond.methodLink RL 96 mX12_take.1 ∈ lw_good := memg 1289 rfl rfl
set_option maxRecDepth 100000 in
theorem ml_RL_100 : Cond.methodLink RL 100 mX12_span.1 ∈ lw_good := memg 1293 rfl rfl
set_option maxRecDepth 100000 in
theorem ml_RL_104 : Cond.methodLink RL 104 mX12_away.1 ∈ lw_good := memg 1297 rfl rfl
set_option maxRecDepth 100000 in
theorem ml_RL_109 : Cond.methodLink RL 109 mX12_hold.1 ∈ lw_good := memg 1301 rfl rfl
set_option maxRecDepth 100000 in
theorem ml_RL_113 : Cond.methodLink RL 113 mX12_load.1 ∈ lw_good := memg 1305 rfl rfl
set_option maxRecDepth 100000 in
theorem ml_RX12_264 : Cond.methodLink RX12 264 mX12_isSpan.1 ∈ lw_good := memg 1309 rfl rfl
set_option maxRecDepth 100000 in
theorem ml_RL_117 : Cond.methodLink RL 117 mX12_times.1 ∈ lw_good := memg 1313 rfl rfl
set_option maxRecDepth 100000 in
theorem ml_RX12_320 : Cond.methodLink RX12 320 mX12_timesOf.1 ∈ lw_good := memg 1317 rfl rfl
set_option maxRecDepth 100000 in
theorem ml_RX12_311 : Cond.methodLink RX12 311 mX12_gather.1 ∈ lw_good := memg 1321 rfl rfl
set_option maxRecDepth 100000 in
theorem ml_RX12_273 : Cond.methodLink RX12 273 mX12_strengthOf.1 ∈ lw_good := memg 1325 rfl rfl
set_option maxRecDepth 100000 in
theorem ml_RX12_293 : Cond.methodLink RX12 293 mX12_hogOf.1 ∈ lw_good := memg 1329 rfl rfl
set_option maxRecDepth 100000 in
theorem ml_RX12_277 : Cond.methodLink RX12 277 mX12_less3.1 ∈ lw_good := memg 1333 rfl rfl
set_option maxRecDepth 100000 in
theorem ml_RX12_281 : Cond.methodLink RX12 281 mX12_product.1 ∈ lw_good := memg 1337 rfl rfl
set_option maxRecDepth 100000 in
theorem ml_RX12_284 : Cond.methodLink RX12 284 mX12_less.1 ∈ lw_good := memg 1341 rfl rfl
set_option maxRecDepth 100000 in
theorem ml_RX12_132 : Cond.methodLink RX12 132 mX12_sum.1 ∈ lw_good := memg 1345 rfl rfl
set_option maxRecDepth 100000 in
theorem ml_RL_121 : Cond.methodLink RL 121 mX12_factor.1 ∈ lw_good := memg 1349 rfl rfl
set_option maxRecDepth 100000 in
theorem ml_RX12_332 : Cond.methodLink RX12 332 mX12_finds.1 ∈ lw_good := memg 1353 rfl rfl
set_option maxRecDepth 100000 in
theorem ml_RX12_326 : Cond.methodLink RX12 326 mX12_held.1 ∈ lw_good := memg 1357 rfl rfl
set_option maxRecDepth 100000 in
theorem ml_RX12_329 : Cond.methodLink RX12 329 mX12_keep.1 ∈ lw_good := memg 1361 rfl rfl
set_option maxRecDepth 100000 in
theorem ml_RL_125 : Cond.methodLink RL 125 mX12_weakest.1 ∈ lw_good := memg 1365 rfl rfl
set_option maxRecDepth 100000 in
theorem im_obj : Cond.instanceMethod objectInit ∈ lw_good := memg 94 rfl rfl
set_option maxRecDepth 100000 in
theorem co_obj : Cond.code objectInit ⟨#[0xb1]⟩ 1 none ∈ lw_good := memg 95 rfl rfl
set_option maxRecDepth 100000 in
theorem sm_copy : Cond.static arraycopyName ∈ lw_good := memg 742 rfl rfl
set_option maxRecDepth 100000 in
theorem ini_sys : Cond.initialized "java/lang/System" ∈ lw_good := memg 87 rfl rfl
