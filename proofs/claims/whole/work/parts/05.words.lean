theorem l_X2_7 : FL RX2 7 RX2 TX2 3 2 := ⟨by decide, rfl, Gw_in (List.mem_of_getElem? (i := 113) (by decide +kernel)) rfl⟩
abbrev M_X2_size : MT := (yX2_size, cX2_size, 1, (some .int))
theorem m_X2_size : MV M_X2_size 0 := ⟨⟨Gw_in (List.mem_of_getElem? (i := 336) (by decide +kernel)) rfl, Gw_in (List.mem_of_getElem? (i := 77) (by decide +kernel)) rfl, by decide, by decide, by decide, by decide +kernel⟩, Gw_in (List.mem_of_getElem? (i := 334) (by decide +kernel)) rfl, Gw_in (List.mem_of_getElem? (i := 335) (by decide +kernel)) rfl⟩
theorem l_X2_13 : FL RX2 13 RX2 TX2 3 0 := ⟨by decide, rfl, Gw_in (List.mem_of_getElem? (i := 111) (by decide +kernel)) rfl⟩
theorem l_X2_16 : FL RX2 16 RX2 TX2 3 1 := ⟨by decide, rfl, Gw_in (List.mem_of_getElem? (i := 112) (by decide +kernel)) rfl⟩
abbrev M_X2_cell : MT := (yX2_cell, cX2_cell, 3, (some .int))
theorem m_X2_cell : MV M_X2_cell 2 := ⟨⟨Gw_in (List.mem_of_getElem? (i := 386) (by decide +kernel)) rfl, Gw_in (List.mem_of_getElem? (i := 77) (by decide +kernel)) rfl, by decide, by decide, by decide, by decide +kernel⟩, Gw_in (List.mem_of_getElem? (i := 384) (by decide +kernel)) rfl, Gw_in (List.mem_of_getElem? (i := 385) (by decide +kernel)) rfl⟩
theorem p_X2_2 : PF TX2 2 := ⟨rfl, by decide +kernel⟩
abbrev M_X2_empty : MT := (yX2_empty, cX2_empty, 1, none)
theorem m_X2_empty : MV M_X2_empty 0 := ⟨⟨Gw_in (List.mem_of_getElem? (i := 366) (by decide +kernel)) rfl, Gw_in (List.mem_of_getElem? (i := 77) (by decide +kernel)) rfl, by decide, by decide, by decide, by decide +kernel⟩, Gw_in (List.mem_of_getElem? (i := 364) (by decide +kernel)) rfl, Gw_in (List.mem_of_getElem? (i := 365) (by decide +kernel)) rfl⟩
abbrev M_X7_isBelow : MT := (yX7_isBelow, cX7_isBelow, 2, (some .boolean))
theorem m_X7_isBelow : MS M_X7_isBelow 2 := ⟨⟨Gw_in (List.mem_of_getElem? (i := 332) (by decide +kernel)) rfl, Gw_in (List.mem_of_getElem? (i := 75) (by decide +kernel)) rfl, by decide, by decide, by decide, by decide +kernel⟩, Gw_in (List.mem_of_getElem? (i := 331) (by decide +kernel)) rfl⟩
theorem l_X5_20 : FL RX5 20 RX5 TX5 8 1 := ⟨by decide, rfl, Gw_in (List.mem_of_getElem? (i := 125) (by decide +kernel)) rfl⟩
theorem k_X5_83 : Cond.methodLink RX5 83 yX2_cell ∈ Gw := Gw_in (List.mem_of_getElem? (i := 383) (by decide +kernel)) rfl
theorem l_X5_86 : Cond.fieldLinkNest RX5 86 "LastHappened" (tabN 2) "[I" "LastHappened" ∈ nestW := by decide +kernel
theorem k_X5_46 : Cond.methodLinkNest RX5 46 yX7_isBelow "LastHappened" ∈ nestW := List.mem_filter.mpr ⟨List.mem_of_getElem? (i := 256) (by decide +kernel), rfl⟩
abbrev M_X5_kindOf : MT := (yX5_kindOf, cX5_kindOf, 3, (some .int))
theorem m_X5_kindOf : MV M_X5_kindOf 1 := ⟨⟨Gw_in (List.mem_of_getElem? (i := 588) (by decide +kernel)) rfl, Gw_in (List.mem_of_getElem? (i := 76) (by decide +kernel)) rfl, by decide, by decide, by decide, by decide +kernel⟩, Gw_in (List.mem_of_getElem? (i := 587) (by decide +kernel)) rfl, Gw_in (List.mem_of_getElem? (i := 15) (by decide +kernel)) rfl⟩
theorem k_X5_89 : Cond.methodLink RX5 89 yX5_kindOf ∈ Gw := Gw_in (List.mem_of_getElem? (i := 585) (by decide +kernel)) rfl
abbrev M_X5_needed : MT := (yX5_needed, cX5_needed, 2, (some .int))
theorem m_X5_needed : MV M_X5_needed 1 := ⟨⟨Gw_in (List.mem_of_getElem? (i := 582) (by decide +kernel)) rfl, Gw_in (List.mem_of_getElem? (i := 76) (by decide +kernel)) rfl, by decide, by decide, by decide, by decide +kernel⟩, Gw_in (List.mem_of_getElem? (i := 580) (by decide +kernel)) rfl, Gw_in (List.mem_of_getElem? (i := 581) (by decide +kernel)) rfl⟩
theorem k_X5_92 : Cond.methodLink RX5 92 yX5_needed ∈ Gw := Gw_in (List.mem_of_getElem? (i := 639) (by decide +kernel)) rfl
abbrev M_X5_isSeenByEnough : MT := (yX5_isSeenByEnough, cX5_isSeenByEnough, 2, (some .boolean))
theorem m_X5_isSeenByEnough : MV M_X5_isSeenByEnough 1 := ⟨⟨Gw_in (List.mem_of_getElem? (i := 638) (by decide +kernel)) rfl, Gw_in (List.mem_of_getElem? (i := 76) (by decide +kernel)) rfl, by decide, by decide, by decide, by decide +kernel⟩, Gw_in (List.mem_of_getElem? (i := 636) (by decide +kernel)) rfl, Gw_in (List.mem_of_getElem? (i := 637) (by decide +kernel)) rfl⟩
theorem l_X5_16 : FL RX5 16 RX5 TX5 8 0 := ⟨by decide, rfl, Gw_in (List.mem_of_getElem? (i := 122) (by decide +kernel)) rfl⟩
abbrev M_X5_meet : MT := (yX5_meet, cX5_meet, 7, (some .boolean))
theorem m_X5_meet : MV M_X5_meet 2 := ⟨⟨Gw_in (List.mem_of_getElem? (i := 611) (by decide +kernel)) rfl, Gw_in (List.mem_of_getElem? (i := 76) (by decide +kernel)) rfl, by decide, by decide, by decide, by decide +kernel⟩, Gw_in (List.mem_of_getElem? (i := 610) (by decide +kernel)) rfl, Gw_in (List.mem_of_getElem? (i := 16) (by decide +kernel)) rfl⟩
theorem k_X5_50 : Cond.methodLink RX5 50 yX2_size ∈ Gw := Gw_in (List.mem_of_getElem? (i := 333) (by decide +kernel)) rfl
theorem k_X5_101 : Cond.methodLink RX5 101 yX5_meet ∈ Gw := Gw_in (List.mem_of_getElem? (i := 608) (by decide +kernel)) rfl
abbrev M_X5_streetsOf : MT := (yX5_streetsOf, cX5_streetsOf, 5, (some .int))
theorem m_X5_streetsOf : MV M_X5_streetsOf 1 := ⟨⟨Gw_in (List.mem_of_getElem? (i := 607) (by decide +kernel)) rfl, Gw_in (List.mem_of_getElem? (i := 76) (by decide +kernel)) rfl, by decide, by decide, by decide, by decide +kernel⟩, Gw_in (List.mem_of_getElem? (i := 605) (by decide +kernel)) rfl, Gw_in (List.mem_of_getElem? (i := 606) (by decide +kernel)) rfl⟩
theorem l_X7_275 : Cond.fieldLink RX7 275 "LastHappened" (tabN 3) "[I" ∈ Gw := Gw_in (by decide +kernel) rfl
theorem k_X7_93 : Cond.methodLink RX7 93 yX7_isBelow ∈ Gw := Gw_in (List.mem_of_getElem? (i := 409) (by decide +kernel)) rfl
abbrev M_X7_rankBy : MT := (yX7_rankBy, cX7_rankBy, 2, (some .int))
theorem m_X7_rankBy : MS M_X7_rankBy 2 := ⟨⟨Gw_in (List.mem_of_getElem? (i := 595) (by decide +kernel)) rfl, Gw_in (List.mem_of_getElem? (i := 75) (by decide +kernel)) rfl, by decide, by decide, by decide, by decide +kernel⟩, Gw_in (List.mem_of_getElem? (i := 594) (by decide +kernel)) rfl⟩
theorem k_X5_95 : Cond.methodLinkNest RX5 95 yX7_rankBy "LastHappened" ∈ nestW := List.mem_filter.mpr ⟨List.mem_of_getElem? (i := 519) (by decide +kernel), rfl⟩
abbrev M_X5_rankGiven : MT := (yX5_rankGiven, cX5_rankGiven, 2, (some .int))
theorem m_X5_rankGiven : MV M_X5_rankGiven 1 := ⟨⟨Gw_in (List.mem_of_getElem? (i := 592) (by decide +kernel)) rfl, Gw_in (List.mem_of_getElem? (i := 76) (by decide +kernel)) rfl, by decide, by decide, by decide, by decide +kernel⟩, Gw_in (List.mem_of_getElem? (i := 590) (by decide +kernel)) rfl, Gw_in (List.mem_of_getElem? (i := 591) (by decide +kernel)) rfl⟩
theorem l_X5_98 : Cond.fieldLinkNest RX5 98 "LastHappened" (tabN 4) "[I" "LastHappened" ∈ nestW := by decide +kernel
abbrev M_X5_hoursGiven : MT := (yX5_hoursGiven, cX5_hoursGiven, 2, (some .int))
theorem m_X5_hoursGiven : MV M_X5_hoursGiven 1 := ⟨⟨Gw_in (List.mem_of_getElem? (i := 601) (by decide +kernel)) rfl, Gw_in (List.mem_of_getElem? (i := 76) (by decide +kernel)) rfl, by decide, by decide, by decide, by decide +kernel⟩, Gw_in (List.mem_of_getElem? (i := 599) (by decide +kernel)) rfl, Gw_in (List.mem_of_getElem? (i := 600) (by decide +kernel)) rfl⟩
theorem l_X0_16 : FL RX0 16 RX0 TX0 10 0 := ⟨by decide, rfl, Gw_in (List.mem_of_getElem? (i := 190) (by decide +kernel)) rfl⟩
theorem k_X0_54 : Cond.methodLink RX0 54 yX2_size ∈ Gw := Gw_in (List.mem_of_getElem? (i := 632) (by decide +kernel)) rfl
theorem k_X0_58 : Cond.methodLink RX0 58 yX2_cell ∈ Gw := Gw_in (List.mem_of_getElem? (i := 633) (by decide +kernel)) rfl
abbrev M_X0_placeBehind : MT := (yX0_placeBehind, cX0_placeBehind, 3, (some .int))
theorem m_X0_placeBehind : MV M_X0_placeBehind 1 := ⟨⟨Gw_in (List.mem_of_getElem? (i := 650) (by decide +kernel)) rfl, Gw_in (List.mem_of_getElem? (i := 79) (by decide +kernel)) rfl, by decide, by decide, by decide, by decide +kernel⟩, Gw_in (List.mem_of_getElem? (i := 649) (by decide +kernel)) rfl, Gw_in (List.mem_of_getElem? (i := 19) (by decide +kernel)) rfl⟩
abbrev M_X2_isFull : MT := (yX2_isFull, cX2_isFull, 1, (some .boolean))
theorem m_X2_isFull : MV M_X2_isFull 0 := ⟨⟨Gw_in (List.mem_of_getElem? (i := 350) (by decide +kernel)) rfl, Gw_in (List.mem_of_getElem? (i := 77) (by decide +kernel)) rfl, by decide, by decide, by decide, by decide +kernel⟩, Gw_in (List.mem_of_getElem? (i := 348) (by decide +kernel)) rfl, Gw_in (List.mem_of_getElem? (i := 349) (by decide +kernel)) rfl⟩
theorem k_X2_24 : Cond.methodLink RX2 24 yX2_isFull ∈ Gw := Gw_in (List.mem_of_getElem? (i := 375) (by decide +kernel)) rfl
theorem k_X2_28 : CPW RX2 28 := ⟨Gw_in (by decide +kernel) rfl, Gw_in (by decide +kernel) rfl, Gw_in (by decide +kernel) rfl, Gw_in (by decide +kernel) rfl⟩
abbrev M_X2_insert : MT := (yX2_insert, cX2_insert, 4, none)
theorem m_X2_insert : MV M_X2_insert 2 := ⟨⟨Gw_in (List.mem_of_getElem? (i := 374) (by decide +kernel)) rfl, Gw_in (List.mem_of_getElem? (i := 77) (by decide +kernel)) rfl, by decide, by decide, by decide, by decide +kernel⟩, Gw_in (List.mem_of_getElem? (i := 372) (by decide +kernel)) rfl, Gw_in (List.mem_of_getElem? (i := 373) (by decide +kernel)) rfl⟩
theorem l_X0_20 : FL RX0 20 RX0 TX0 10 1 := ⟨by decide, rfl, Gw_in (List.mem_of_getElem? (i := 191) (by decide +kernel)) rfl⟩
theorem l_X0_65 : FLN RX0 65 RX5 TX5 8 1 := ⟨by decide, rfl, List.mem_filter.mpr ⟨List.mem_of_getElem? (i := 52) (by decide +kernel), rfl⟩⟩
theorem k_X0_76 : Cond.methodLink RX0 76 yX5_streetsOf ∈ Gw := Gw_in (List.mem_of_getElem? (i := 644) (by decide +kernel)) rfl
theorem k_X0_80 : Cond.methodLink RX0 80 yX5_rankGiven ∈ Gw := Gw_in (List.mem_of_getElem? (i := 645) (by decide +kernel)) rfl
theorem k_X0_83 : Cond.methodLink RX0 83 yX5_hoursGiven ∈ Gw := Gw_in (List.mem_of_getElem? (i := 646) (by decide +kernel)) rfl
theorem k_X0_86 : Cond.methodLink RX0 86 yX0_placeBehind ∈ Gw := Gw_in (List.mem_of_getElem? (i := 647) (by decide +kernel)) rfl
theorem k_X0_89 : Cond.methodLink RX0 89 yX2_insert ∈ Gw := Gw_in (List.mem_of_getElem? (i := 651) (by decide +kernel)) rfl
abbrev M_X0_planEvent : MT := (yX0_planEvent, cX0_planEvent, 3, none)
theorem m_X0_planEvent : MV M_X0_planEvent 2 := ⟨⟨Gw_in (List.mem_of_getElem? (i := 643) (by decide +kernel)) rfl, Gw_in (List.mem_of_getElem? (i := 79) (by decide +kernel)) rfl, by decide, by decide, by decide, by decide +kernel⟩, Gw_in (List.mem_of_getElem? (i := 642) (by decide +kernel)) rfl, Gw_in (List.mem_of_getElem? (i := 18) (by decide +kernel)) rfl⟩
theorem l_X0_49 : FLN RX0 49 RX5 TX5 8 7 := ⟨by decide, rfl, List.mem_filter.mpr ⟨List.mem_of_getElem? (i := 64) (by decide +kernel), rfl⟩⟩
theorem l_X0_43 : FL RX0 43 RX0 TX0 10 8 := ⟨by decide, rfl, Gw_in (List.mem_of_getElem? (i := 198) (by decide +kernel)) rfl⟩
theorem p_X0_8 : PF TX0 8 := ⟨rfl, by decide +kernel⟩
theorem l_X0_52 : FLN RX0 52 RX5 TX5 8 0 := ⟨by decide, rfl, List.mem_filter.mpr ⟨List.mem_of_getElem? (i := 49) (by decide +kernel), rfl⟩⟩
theorem l_X0_39 : FL RX0 39 RX0 TX0 10 7 := ⟨by decide, rfl, Gw_in (List.mem_of_getElem? (i := 197) (by decide +kernel)) rfl⟩
theorem p_X0_7 : PF TX0 7 := ⟨rfl, by decide +kernel⟩
theorem k_X0_62 : Cond.methodLink RX0 62 yX2_empty ∈ Gw := Gw_in (List.mem_of_getElem? (i := 634) (by decide +kernel)) rfl
theorem k_X0_68 : Cond.methodLink RX0 68 yX5_isSeenByEnough ∈ Gw := Gw_in (List.mem_of_getElem? (i := 635) (by decide +kernel)) rfl
theorem k_X0_72 : Cond.methodLink RX0 72 yX0_planEvent ∈ Gw := Gw_in (List.mem_of_getElem? (i := 640) (by decide +kernel)) rfl
theorem l_X0_24 : FL RX0 24 RX0 TX0 10 2 := ⟨by decide, rfl, Gw_in (List.mem_of_getElem? (i := 192) (by decide +kernel)) rfl⟩
abbrev M_X0_plan : MT := (yX0_plan, cX0_plan, 3, none)
theorem m_X0_plan : MV M_X0_plan 1 := ⟨⟨Gw_in (List.mem_of_getElem? (i := 631) (by decide +kernel)) rfl, Gw_in (List.mem_of_getElem? (i := 79) (by decide +kernel)) rfl, by decide, by decide, by decide, by decide +kernel⟩, Gw_in (List.mem_of_getElem? (i := 629) (by decide +kernel)) rfl, Gw_in (List.mem_of_getElem? (i := 630) (by decide +kernel)) rfl⟩
theorem k_X0_93 : Cond.methodLinkNest RX0 93 yX7_rankBy "LastHappened" ∈ nestW := List.mem_filter.mpr ⟨List.mem_of_getElem? (i := 698) (by decide +kernel), rfl⟩
theorem l_X0_96 : Cond.fieldLinkNest RX0 96 "LastHappened" (tabN 4) "[I" "LastHappened" ∈ nestW := by decide +kernel
abbrev M_X0_addStaged : MT := (yX0_addStaged, cX0_addStaged, 5, (some .int))
theorem m_X0_addStaged : MV M_X0_addStaged 3 := ⟨⟨Gw_in (List.mem_of_getElem? (i := 771) (by decide +kernel)) rfl, Gw_in (List.mem_of_getElem? (i := 79) (by decide +kernel)) rfl, by decide, by decide, by decide, by decide +kernel⟩, Gw_in (List.mem_of_getElem? (i := 769) (by decide +kernel)) rfl, Gw_in (List.mem_of_getElem? (i := 770) (by decide +kernel)) rfl⟩
theorem k_X2_34 : Cond.methodLinkNest RX2 34 yX7_isBelow "LastHappened" ∈ nestW := List.mem_filter.mpr ⟨List.mem_of_getElem? (i := 317) (by decide +kernel), rfl⟩
abbrev M_X2_drop : MT := (yX2_drop, cX2_drop, 3, none)
theorem m_X2_drop : MV M_X2_drop 1 := ⟨⟨Gw_in (List.mem_of_getElem? (i := 390) (by decide +kernel)) rfl, Gw_in (List.mem_of_getElem? (i := 77) (by decide +kernel)) rfl, by decide, by decide, by decide, by decide +kernel⟩, Gw_in (List.mem_of_getElem? (i := 388) (by decide +kernel)) rfl, Gw_in (List.mem_of_getElem? (i := 389) (by decide +kernel)) rfl⟩
theorem k_X0_99 : Cond.methodLink RX0 99 yX2_drop ∈ Gw := Gw_in (List.mem_of_getElem? (i := 778) (by decide +kernel)) rfl
abbrev M_X0_dropStaged : MT := (yX0_dropStaged, cX0_dropStaged, 2, none)
theorem m_X0_dropStaged : MV M_X0_dropStaged 1 := ⟨⟨Gw_in (List.mem_of_getElem? (i := 777) (by decide +kernel)) rfl, Gw_in (List.mem_of_getElem? (i := 79) (by decide +kernel)) rfl, by decide, by decide, by decide, by decide +kernel⟩, Gw_in (List.mem_of_getElem? (i := 775) (by decide +kernel)) rfl, Gw_in (List.mem_of_getElem? (i := 776) (by decide +kernel)) rfl⟩
abbrev M_X0_streets : MT := (yX0_streets, cX0_streets, 1, (some .int))
theorem m_X0_streets : MV M_X0_streets 0 := ⟨⟨Gw_in (List.mem_of_getElem? (i := 682) (by decide +kernel)) rfl, Gw_in (List.mem_of_getElem? (i := 79) (by decide +kernel)) rfl, by decide, by decide, by decide, by decide +kernel⟩, Gw_in (List.mem_of_getElem? (i := 680) (by decide +kernel)) rfl, Gw_in (List.mem_of_getElem? (i := 681) (by decide +kernel)) rfl⟩
theorem k_X0_103 : Cond.methodLinkNest RX0 103 yX7_isBelow "LastHappened" ∈ nestW := List.mem_filter.mpr ⟨List.mem_of_getElem? (i := 613) (by decide +kernel), rfl⟩
abbrev M_X0_firstWordOf : MT := (yX0_firstWordOf, cX0_firstWordOf, 2, (some .int))
theorem m_X0_firstWordOf : MV M_X0_firstWordOf 1 := ⟨⟨Gw_in (List.mem_of_getElem? (i := 796) (by decide +kernel)) rfl, Gw_in (List.mem_of_getElem? (i := 79) (by decide +kernel)) rfl, by decide, by decide, by decide, by decide +kernel⟩, Gw_in (List.mem_of_getElem? (i := 794) (by decide +kernel)) rfl, Gw_in (List.mem_of_getElem? (i := 795) (by decide +kernel)) rfl⟩
theorem l_X0_46 : FL RX0 46 RX0 TX0 10 9 := ⟨by decide, rfl, Gw_in (List.mem_of_getElem? (i := 199) (by decide +kernel)) rfl⟩
theorem p_X0_9 : PF TX0 9 := ⟨rfl, by decide +kernel⟩
theorem l_X0_27 : FL RX0 27 RX0 TX0 10 3 := ⟨by decide, rfl, Gw_in (List.mem_of_getElem? (i := 193) (by decide +kernel)) rfl⟩
theorem l_X0_30 : FL RX0 30 RX0 TX0 10 4 := ⟨by decide, rfl, Gw_in (List.mem_of_getElem? (i := 194) (by decide +kernel)) rfl⟩
theorem l_X0_33 : FL RX0 33 RX0 TX0 10 5 := ⟨by decide, rfl, Gw_in (List.mem_of_getElem? (i := 195) (by decide +kernel)) rfl⟩
theorem l_X0_36 : FL RX0 36 RX0 TX0 10 6 := ⟨by decide, rfl, Gw_in (List.mem_of_getElem? (i := 196) (by decide +kernel)) rfl⟩
abbrev M_X0_begin : MT := (yX0_begin, cX0_begin, 2, none)
theorem m_X0_begin : MV M_X0_begin 1 := ⟨⟨Gw_in (List.mem_of_getElem? (i := 659) (by decide +kernel)) rfl, Gw_in (List.mem_of_getElem? (i := 79) (by decide +kernel)) rfl, by decide, by decide, by decide, by decide +kernel⟩, Gw_in (List.mem_of_getElem? (i := 658) (by decide +kernel)) rfl, Gw_in (List.mem_of_getElem? (i := 20) (by decide +kernel)) rfl⟩
abbrev M_X7_holds : MT := (yX7_holds, cX7_holds, 2, (some .boolean))
theorem m_X7_holds : MS M_X7_holds 2 := ⟨⟨Gw_in (List.mem_of_getElem? (i := 670) (by decide +kernel)) rfl, Gw_in (List.mem_of_getElem? (i := 75) (by decide +kernel)) rfl, by decide, by decide, by decide, by decide +kernel⟩, Gw_in (List.mem_of_getElem? (i := 669) (by decide +kernel)) rfl⟩
abbrev M_X0_yields : MT := (yX0_yields, cX0_yields, 4, (some .boolean))
theorem m_X0_yields : MV M_X0_yields 3 := ⟨⟨Gw_in (List.mem_of_getElem? (i := 674) (by decide +kernel)) rfl, Gw_in (List.mem_of_getElem? (i := 79) (by decide +kernel)) rfl, by decide, by decide, by decide, by decide +kernel⟩, Gw_in (List.mem_of_getElem? (i := 673) (by decide +kernel)) rfl, Gw_in (List.mem_of_getElem? (i := 22) (by decide +kernel)) rfl⟩
theorem k_X0_123 : Cond.methodLinkNest RX0 123 yX7_holds "LastHappened" ∈ nestW := List.mem_filter.mpr ⟨List.mem_of_getElem? (i := 594) (by decide +kernel), rfl⟩
theorem k_X0_126 : Cond.methodLink RX0 126 yX0_yields ∈ Gw := Gw_in (List.mem_of_getElem? (i := 671) (by decide +kernel)) rfl
abbrev M_X0_isRenamed : MT := (yX0_isRenamed, cX0_isRenamed, 4, (some .boolean))
theorem m_X0_isRenamed : MV M_X0_isRenamed 2 := ⟨⟨Gw_in (List.mem_of_getElem? (i := 667) (by decide +kernel)) rfl, Gw_in (List.mem_of_getElem? (i := 79) (by decide +kernel)) rfl, by decide, by decide, by decide, by decide +kernel⟩, Gw_in (List.mem_of_getElem? (i := 666) (by decide +kernel)) rfl, Gw_in (List.mem_of_getElem? (i := 21) (by decide +kernel)) rfl⟩
theorem k_X0_117 : Cond.methodLink RX0 117 yX0_isRenamed ∈ Gw := Gw_in (List.mem_of_getElem? (i := 664) (by decide +kernel)) rfl
abbrev M_X0_live : MT := (yX0_live, cX0_live, 5, (some .int))
theorem m_X0_live : MV M_X0_live 3 := ⟨⟨Gw_in (List.mem_of_getElem? (i := 706) (by decide +kernel)) rfl, Gw_in (List.mem_of_getElem? (i := 79) (by decide +kernel)) rfl, by decide, by decide, by decide, by decide +kernel⟩, Gw_in (List.mem_of_getElem? (i := 705) (by decide +kernel)) rfl, Gw_in (List.mem_of_getElem? (i := 24) (by decide +kernel)) rfl⟩
theorem k_X0_107 : Cond.methodLink RX0 107 yX0_begin ∈ Gw := Gw_in (List.mem_of_getElem? (i := 656) (by decide +kernel)) rfl
theorem k_X0_110 : Cond.methodLink RX0 110 yX0_live ∈ Gw := Gw_in (List.mem_of_getElem? (i := 703) (by decide +kernel)) rfl
abbrev M_X0_wordIn : MT := (yX0_wordIn, cX0_wordIn, 4, (some .int))
theorem m_X0_wordIn : MV M_X0_wordIn 3 := ⟨⟨Gw_in (List.mem_of_getElem? (i := 763) (by decide +kernel)) rfl, Gw_in (List.mem_of_getElem? (i := 79) (by decide +kernel)) rfl, by decide, by decide, by decide, by decide +kernel⟩, Gw_in (List.mem_of_getElem? (i := 761) (by decide +kernel)) rfl, Gw_in (List.mem_of_getElem? (i := 762) (by decide +kernel)) rfl⟩
abbrev M_X0_renamings : MT := (yX0_renamings, cX0_renamings, 3, (some .int))
theorem m_X0_renamings : MV M_X0_renamings 2 := ⟨⟨Gw_in (List.mem_of_getElem? (i := 702) (by decide +kernel)) rfl, Gw_in (List.mem_of_getElem? (i := 79) (by decide +kernel)) rfl, by decide, by decide, by decide, by decide +kernel⟩, Gw_in (List.mem_of_getElem? (i := 700) (by decide +kernel)) rfl, Gw_in (List.mem_of_getElem? (i := 701) (by decide +kernel)) rfl⟩
theorem l_X5_29 : FL RX5 29 RX5 TX5 8 4 := ⟨by decide, rfl, Gw_in (List.mem_of_getElem? (i := 134) (by decide +kernel)) rfl⟩
abbrev M_X5_rentAt : MT := (yX5_rentAt, cX5_rentAt, 2, (some .int))
theorem m_X5_rentAt : MV M_X5_rentAt 1 := ⟨⟨Gw_in (List.mem_of_getElem? (i := 808) (by decide +kernel)) rfl, Gw_in (List.mem_of_getElem? (i := 76) (by decide +kernel)) rfl, by decide, by decide, by decide, by decide +kernel⟩, Gw_in (List.mem_of_getElem? (i := 806) (by decide +kernel)) rfl, Gw_in (List.mem_of_getElem? (i := 807) (by decide +kernel)) rfl⟩
theorem k_X0_114 : Cond.methodLink RX0 114 yX5_rentAt ∈ Gw := Gw_in (List.mem_of_getElem? (i := 805) (by decide +kernel)) rfl
abbrev M_X0_rentOf : MT := (yX0_rentOf, cX0_rentOf, 5, (some .int))
theorem m_X0_rentOf : MV M_X0_rentOf 2 := ⟨⟨Gw_in (List.mem_of_getElem? (i := 804) (by decide +kernel)) rfl, Gw_in (List.mem_of_getElem? (i := 79) (by decide +kernel)) rfl, by decide, by decide, by decide, by decide +kernel⟩, Gw_in (List.mem_of_getElem? (i := 802) (by decide +kernel)) rfl, Gw_in (List.mem_of_getElem? (i := 803) (by decide +kernel)) rfl⟩
abbrev M_X0_beginAll : MT := (yX0_beginAll, cX0_beginAll, 2, none)
theorem m_X0_beginAll : MV M_X0_beginAll 0 := ⟨⟨Gw_in (List.mem_of_getElem? (i := 655) (by decide +kernel)) rfl, Gw_in (List.mem_of_getElem? (i := 79) (by decide +kernel)) rfl, by decide, by decide, by decide, by decide +kernel⟩, Gw_in (List.mem_of_getElem? (i := 653) (by decide +kernel)) rfl, Gw_in (List.mem_of_getElem? (i := 654) (by decide +kernel)) rfl⟩
abbrev M_X0_numberFor : MT := (yX0_numberFor, cX0_numberFor, 4, (some .int))
theorem m_X0_numberFor : MV M_X0_numberFor 1 := ⟨⟨Gw_in (List.mem_of_getElem? (i := 678) (by decide +kernel)) rfl, Gw_in (List.mem_of_getElem? (i := 79) (by decide +kernel)) rfl, by decide, by decide, by decide, by decide +kernel⟩, Gw_in (List.mem_of_getElem? (i := 677) (by decide +kernel)) rfl, Gw_in (List.mem_of_getElem? (i := 23) (by decide +kernel)) rfl⟩
theorem k_X0_120 : Cond.methodLink RX0 120 yX0_numberFor ∈ Gw := Gw_in (List.mem_of_getElem? (i := 675) (by decide +kernel)) rfl
abbrev M_X0_liveAll : MT := (yX0_liveAll, cX0_liveAll, 3, none)
theorem m_X0_liveAll : MV M_X0_liveAll 1 := ⟨⟨Gw_in (List.mem_of_getElem? (i := 663) (by decide +kernel)) rfl, Gw_in (List.mem_of_getElem? (i := 79) (by decide +kernel)) rfl, by decide, by decide, by decide, by decide +kernel⟩, Gw_in (List.mem_of_getElem? (i := 661) (by decide +kernel)) rfl, Gw_in (List.mem_of_getElem? (i := 662) (by decide +kernel)) rfl⟩
abbrev M_X0_nameNow : MT := (yX0_nameNow, cX0_nameNow, 2, (some .int))
theorem m_X0_nameNow : MV M_X0_nameNow 1 := ⟨⟨Gw_in (List.mem_of_getElem? (i := 686) (by decide +kernel)) rfl, Gw_in (List.mem_of_getElem? (i := 79) (by decide +kernel)) rfl, by decide, by decide, by decide, by decide +kernel⟩, Gw_in (List.mem_of_getElem? (i := 684) (by decide +kernel)) rfl, Gw_in (List.mem_of_getElem? (i := 685) (by decide +kernel)) rfl⟩
theorem l_X1_15 : FL RX1 15 RX1 TX1 2 0 := ⟨by decide, rfl, Gw_in (List.mem_of_getElem? (i := 227) (by decide +kernel)) rfl⟩
theorem k_X1_19 : Cond.methodLink RX1 19 yX0_plan ∈ Gw := Gw_in (List.mem_of_getElem? (i := 628) (by decide +kernel)) rfl
theorem k_X1_25 : Cond.methodLink RX1 25 yX0_beginAll ∈ Gw := Gw_in (List.mem_of_getElem? (i := 652) (by decide +kernel)) rfl
theorem k_X1_28 : Cond.methodLink RX1 28 yX0_liveAll ∈ Gw := Gw_in (List.mem_of_getElem? (i := 660) (by decide +kernel)) rfl
theorem k_X1_32 : Cond.methodLink RX1 32 yX0_streets ∈ Gw := Gw_in (List.mem_of_getElem? (i := 679) (by decide +kernel)) rfl
theorem l_X1_9 : FL RX1 9 RX1 TX1 2 1 := ⟨by decide, rfl, Gw_in (List.mem_of_getElem? (i := 228) (by decide +kernel)) rfl⟩
theorem k_X1_36 : Cond.methodLink RX1 36 yX0_nameNow ∈ Gw := Gw_in (List.mem_of_getElem? (i := 683) (by decide +kernel)) rfl
abbrev M_X1_write : MT := (yX1_write, cX1_write, 4, none)
theorem m_X1_write : MV M_X1_write 1 := ⟨⟨Gw_in (List.mem_of_getElem? (i := 627) (by decide +kernel)) rfl, Gw_in (List.mem_of_getElem? (i := 80) (by decide +kernel)) rfl, by decide, by decide, by decide, by decide +kernel⟩, Gw_in (List.mem_of_getElem? (i := 625) (by decide +kernel)) rfl, Gw_in (List.mem_of_getElem? (i := 626) (by decide +kernel)) rfl⟩
abbrev M_X7_isHour : MT := (yX7_isHour, cX7_isHour, 1, (some .boolean))
theorem m_X7_isHour : MS M_X7_isHour 1 := ⟨⟨Gw_in (List.mem_of_getElem? (i := 623) (by decide +kernel)) rfl, Gw_in (List.mem_of_getElem? (i := 75) (by decide +kernel)) rfl, by decide, by decide, by decide, by decide +kernel⟩, Gw_in (List.mem_of_getElem? (i := 622) (by decide +kernel)) rfl⟩
theorem k_X1_40 : Cond.methodLinkNest RX1 40 yX7_isBelow "LastHappened" ∈ nestW := List.mem_filter.mpr ⟨List.mem_of_getElem? (i := 618) (by decide +kernel), rfl⟩
theorem k_X1_44 : Cond.methodLinkNest RX1 44 yX7_isHour "LastHappened" ∈ nestW := List.mem_filter.mpr ⟨List.mem_of_getElem? (i := 619) (by decide +kernel), rfl⟩
abbrev M_X1_at : MT := (yX1_at, cX1_at, 3, (some .int))
theorem m_X1_at : MV M_X1_at 2 := ⟨⟨Gw_in (List.mem_of_getElem? (i := 691) (by decide +kernel)) rfl, Gw_in (List.mem_of_getElem? (i := 80) (by decide +kernel)) rfl, by decide, by decide, by decide, by decide +kernel⟩, Gw_in (List.mem_of_getElem? (i := 689) (by decide +kernel)) rfl, Gw_in (List.mem_of_getElem? (i := 690) (by decide +kernel)) rfl⟩
theorem k_X1_48 : Cond.methodLink RX1 48 yX1_at ∈ Gw := Gw_in (List.mem_of_getElem? (i := 715) (by decide +kernel)) rfl
abbrev M_X1_having : MT := (yX1_having, cX1_having, 5, (some .int))
theorem m_X1_having : MV M_X1_having 2 := ⟨⟨Gw_in (List.mem_of_getElem? (i := 714) (by decide +kernel)) rfl, Gw_in (List.mem_of_getElem? (i := 80) (by decide +kernel)) rfl, by decide, by decide, by decide, by decide +kernel⟩, Gw_in (List.mem_of_getElem? (i := 712) (by decide +kernel)) rfl, Gw_in (List.mem_of_getElem? (i := 713) (by decide +kernel)) rfl⟩
abbrev M_X1_firstHaving : MT := (yX1_firstHaving, cX1_firstHaving, 4, (some .int))
theorem m_X1_firstHaving : MV M_X1_firstHaving 2 := ⟨⟨Gw_in (List.mem_of_getElem? (i := 723) (by decide +kernel)) rfl, Gw_in (List.mem_of_getElem? (i := 80) (by decide +kernel)) rfl, by decide, by decide, by decide, by decide +kernel⟩, Gw_in (List.mem_of_getElem? (i := 721) (by decide +kernel)) rfl, Gw_in (List.mem_of_getElem? (i := 722) (by decide +kernel)) rfl⟩
theorem t_J6_265 : Cond.constant RJ6 265 (nI 1431655765) ∈ Gw := Gw_in (List.mem_of_getElem? (i := 748) (by decide +kernel)) rfl
theorem t_J6_266 : Cond.constant RJ6 266 (nI 858993459) ∈ Gw := Gw_in (List.mem_of_getElem? (i := 749) (by decide +kernel)) rfl
theorem t_J6_267 : Cond.constant RJ6 267 (nI 252645135) ∈ Gw := Gw_in (List.mem_of_getElem? (i := 750) (by decide +kernel)) rfl
abbrev M_J6_bitCount_0f7a4 : MT := (yJ6_bitCount_0f7a4, cJ6_bitCount_0f7a4, 1, (some .int))
theorem m_J6_bitCount_0f7a4 : MS M_J6_bitCount_0f7a4 1 := ⟨⟨Gw_in (List.mem_of_getElem? (i := 747) (by decide +kernel)) rfl, Gw_in (List.mem_of_getElem? (i := 90) (by decide +kernel)) rfl, by decide, by decide, by decide, by decide +kernel⟩, Gw_in (List.mem_of_getElem? (i := 746) (by decide +kernel)) rfl⟩
theorem k_X1_52 : Cond.methodLinkNest RX1 52 yX7_holds "LastHappened" ∈ nestW := List.mem_filter.mpr ⟨List.mem_of_getElem? (i := 669) (by decide +kernel), rfl⟩
theorem k_X1_55 : Cond.methodLink RX1 55 yX1_having ∈ Gw := Gw_in (List.mem_of_getElem? (i := 744) (by decide +kernel)) rfl
theorem k_X1_58 : Cond.methodLink RX1 58 yJ6_bitCount_0f7a4 ∈ Gw := Gw_in (List.mem_of_getElem? (i := 745) (by decide +kernel)) rfl
theorem k_X1_63 : MMW RX1 63 Lib.Math.max.name Lib.Math.max.code := ⟨Gw_in (by decide +kernel) rfl, Gw_in (by decide +kernel) rfl, Gw_in (by decide +kernel) rfl, Gw_in (by decide +kernel) rfl⟩
abbrev M_X1_mostAlike : MT := (yX1_mostAlike, cX1_mostAlike, 6, (some .int))
theorem m_X1_mostAlike : MV M_X1_mostAlike 2 := ⟨⟨Gw_in (List.mem_of_getElem? (i := 742) (by decide +kernel)) rfl, Gw_in (List.mem_of_getElem? (i := 80) (by decide +kernel)) rfl, by decide, by decide, by decide, by decide +kernel⟩, Gw_in (List.mem_of_getElem? (i := 740) (by decide +kernel)) rfl, Gw_in (List.mem_of_getElem? (i := 741) (by decide +kernel)) rfl⟩
theorem k_X2_20 : Cond.methodLink RX2 20 yX2_insert ∈ Gw := Gw_in (List.mem_of_getElem? (i := 371) (by decide +kernel)) rfl
abbrev M_X2_add : MT := (yX2_add, cX2_add, 2, none)
theorem m_X2_add : MV M_X2_add 1 := ⟨⟨Gw_in (List.mem_of_getElem? (i := 370) (by decide +kernel)) rfl, Gw_in (List.mem_of_getElem? (i := 77) (by decide +kernel)) rfl, by decide, by decide, by decide, by decide +kernel⟩, Gw_in (List.mem_of_getElem? (i := 368) (by decide +kernel)) rfl, Gw_in (List.mem_of_getElem? (i := 369) (by decide +kernel)) rfl⟩
abbrev M_X2_copy : MT := (yX2_copy, cX2_copy, 2, none)
theorem m_X2_copy : MV M_X2_copy 1 := ⟨⟨Gw_in (List.mem_of_getElem? (i := 572) (by decide +kernel)) rfl, Gw_in (List.mem_of_getElem? (i := 77) (by decide +kernel)) rfl, by decide, by decide, by decide, by decide +kernel⟩, Gw_in (List.mem_of_getElem? (i := 570) (by decide +kernel)) rfl, Gw_in (List.mem_of_getElem? (i := 571) (by decide +kernel)) rfl⟩
theorem t_X2_40 : Cond.constantLong RX2 40 (31 : Int64) ∈ Gw := Gw_in (List.mem_of_getElem? (i := 946) (by decide +kernel)) rfl
abbrev M_X2_mixInto : MT := (yX2_mixInto, cX2_mixInto, 6, (some .long))
theorem m_X2_mixInto : MV M_X2_mixInto 1 := ⟨⟨Gw_in (List.mem_of_getElem? (i := 945) (by decide +kernel)) rfl, Gw_in (List.mem_of_getElem? (i := 77) (by decide +kernel)) rfl, by decide, by decide, by decide, by decide +kernel⟩, Gw_in (List.mem_of_getElem? (i := 943) (by decide +kernel)) rfl, Gw_in (List.mem_of_getElem? (i := 944) (by decide +kernel)) rfl⟩
theorem l_X3_28 : FL RX3 28 RX3 TX3 6 0 := ⟨by decide, rfl, Gw_in (List.mem_of_getElem? (i := 240) (by decide +kernel)) rfl⟩
theorem k_X3_42 : Cond.methodLink RX3 42 yX0_addStaged ∈ Gw := Gw_in (List.mem_of_getElem? (i := 768) (by decide +kernel)) rfl
theorem k_X3_34 : Cond.methodLink RX3 34 yX0_wordIn ∈ Gw := Gw_in (List.mem_of_getElem? (i := 760) (by decide +kernel)) rfl
theorem k_X3_45 : Cond.methodLink RX3 45 yX0_dropStaged ∈ Gw := Gw_in (List.mem_of_getElem? (i := 774) (by decide +kernel)) rfl
abbrev M_X3_hourOfOne : MT := (yX3_hourOfOne, cX3_hourOfOne, 8, (some .int))
theorem m_X3_hourOfOne : MV M_X3_hourOfOne 4 := ⟨⟨Gw_in (List.mem_of_getElem? (i := 767) (by decide +kernel)) rfl, Gw_in (List.mem_of_getElem? (i := 81) (by decide +kernel)) rfl, by decide, by decide, by decide, by decide +kernel⟩, Gw_in (List.mem_of_getElem? (i := 766) (by decide +kernel)) rfl, Gw_in (List.mem_of_getElem? (i := 26) (by decide +kernel)) rfl⟩
theorem k_X3_38 : Cond.methodLink RX3 38 yX3_hourOfOne ∈ Gw := Gw_in (List.mem_of_getElem? (i := 764) (by decide +kernel)) rfl
theorem l_X3_18 : FL RX3 18 RX3 TX3 6 3 := ⟨by decide, rfl, Gw_in (List.mem_of_getElem? (i := 243) (by decide +kernel)) rfl⟩
theorem p_X3_3 : PF TX3 3 := ⟨rfl, by decide +kernel⟩
theorem l_X3_22 : FL RX3 22 RX3 TX3 6 4 := ⟨by decide, rfl, Gw_in (List.mem_of_getElem? (i := 244) (by decide +kernel)) rfl⟩
theorem p_X3_4 : PF TX3 4 := ⟨rfl, by decide +kernel⟩
abbrev M_X3_fewestStaged : MT := (yX3_fewestStaged, cX3_fewestStaged, 6, (some .int))
theorem m_X3_fewestStaged : MV M_X3_fewestStaged 3 := ⟨⟨Gw_in (List.mem_of_getElem? (i := 759) (by decide +kernel)) rfl, Gw_in (List.mem_of_getElem? (i := 81) (by decide +kernel)) rfl, by decide, by decide, by decide, by decide +kernel⟩, Gw_in (List.mem_of_getElem? (i := 757) (by decide +kernel)) rfl, Gw_in (List.mem_of_getElem? (i := 758) (by decide +kernel)) rfl⟩
abbrev M_X3_hourStaged : MT := (yX3_hourStaged, cX3_hourStaged, 2, (some .int))
theorem m_X3_hourStaged : MV M_X3_hourStaged 1 := ⟨⟨Gw_in (List.mem_of_getElem? (i := 782) (by decide +kernel)) rfl, Gw_in (List.mem_of_getElem? (i := 81) (by decide +kernel)) rfl, by decide, by decide, by decide, by decide +kernel⟩, Gw_in (List.mem_of_getElem? (i := 780) (by decide +kernel)) rfl, Gw_in (List.mem_of_getElem? (i := 781) (by decide +kernel)) rfl⟩
theorem l_X3_49 : FLN RX3 49 RX5 TX5 8 1 := ⟨by decide, rfl, List.mem_filter.mpr ⟨List.mem_of_getElem? (i := 53) (by decide +kernel), rfl⟩⟩
theorem k_X3_55 : Cond.methodLink RX3 55 yX2_size ∈ Gw := Gw_in (List.mem_of_getElem? (i := 791) (by decide +kernel)) rfl
theorem k_X3_67 : Cond.methodLink RX3 67 yX0_firstWordOf ∈ Gw := Gw_in (List.mem_of_getElem? (i := 793) (by decide +kernel)) rfl
theorem k_X3_61 : Cond.methodLink RX3 61 yJ6_bitCount_0f7a4 ∈ Gw := Gw_in (List.mem_of_getElem? (i := 792) (by decide +kernel)) rfl
abbrev M_X3_fewestForbidden : MT := (yX3_fewestForbidden, cX3_fewestForbidden, 7, (some .int))
theorem m_X3_fewestForbidden : MV M_X3_fewestForbidden 2 := ⟨⟨Gw_in (List.mem_of_getElem? (i := 790) (by decide +kernel)) rfl, Gw_in (List.mem_of_getElem? (i := 81) (by decide +kernel)) rfl, by decide, by decide, by decide, by decide +kernel⟩, Gw_in (List.mem_of_getElem? (i := 788) (by decide +kernel)) rfl, Gw_in (List.mem_of_getElem? (i := 789) (by decide +kernel)) rfl⟩
theorem k_X3_77 : Cond.methodLink RX3 77 yX2_cell ∈ Gw := Gw_in (List.mem_of_getElem? (i := 886) (by decide +kernel)) rfl
abbrev M_X3_agrees : MT := (yX3_agrees, cX3_agrees, 5, (some .boolean))
theorem m_X3_agrees : MV M_X3_agrees 2 := ⟨⟨Gw_in (List.mem_of_getElem? (i := 885) (by decide +kernel)) rfl, Gw_in (List.mem_of_getElem? (i := 81) (by decide +kernel)) rfl, by decide, by decide, by decide, by decide +kernel⟩, Gw_in (List.mem_of_getElem? (i := 884) (by decide +kernel)) rfl, Gw_in (List.mem_of_getElem? (i := 32) (by decide +kernel)) rfl⟩
theorem l_X3_25 : FL RX3 25 RX3 TX3 6 5 := ⟨by decide, rfl, Gw_in (List.mem_of_getElem? (i := 245) (by decide +kernel)) rfl⟩
theorem p_X3_5 : PF TX3 5 := ⟨rfl, by decide +kernel⟩
theorem l_X3_70 : FLN RX3 70 RX5 TX5 8 2 := ⟨by decide, rfl, List.mem_filter.mpr ⟨List.mem_of_getElem? (i := 56) (by decide +kernel), rfl⟩⟩
theorem k_X3_73 : Cond.methodLink RX3 73 yX3_agrees ∈ Gw := Gw_in (List.mem_of_getElem? (i := 882) (by decide +kernel)) rfl
abbrev M_X3_trueSets : MT := (yX3_trueSets, cX3_trueSets, 5, (some .int))
theorem m_X3_trueSets : MV M_X3_trueSets 1 := ⟨⟨Gw_in (List.mem_of_getElem? (i := 881) (by decide +kernel)) rfl, Gw_in (List.mem_of_getElem? (i := 81) (by decide +kernel)) rfl, by decide, by decide, by decide, by decide +kernel⟩, Gw_in (List.mem_of_getElem? (i := 879) (by decide +kernel)) rfl, Gw_in (List.mem_of_getElem? (i := 880) (by decide +kernel)) rfl⟩
abbrev M_X3_inAllTrueSets : MT := (yX3_inAllTrueSets, cX3_inAllTrueSets, 1, (some .int))
theorem m_X3_inAllTrueSets : MV M_X3_inAllTrueSets 0 := ⟨⟨Gw_in (List.mem_of_getElem? (i := 890) (by decide +kernel)) rfl, Gw_in (List.mem_of_getElem? (i := 81) (by decide +kernel)) rfl, by decide, by decide, by decide, by decide +kernel⟩, Gw_in (List.mem_of_getElem? (i := 888) (by decide +kernel)) rfl, Gw_in (List.mem_of_getElem? (i := 889) (by decide +kernel)) rfl⟩
abbrev M_X5_dearestWord : MT := (yX5_dearestWord, cX5_dearestWord, 3, (some .int))
theorem m_X5_dearestWord : MV M_X5_dearestWord 0 := ⟨⟨Gw_in (List.mem_of_getElem? (i := 820) (by decide +kernel)) rfl, Gw_in (List.mem_of_getElem? (i := 76) (by decide +kernel)) rfl, by decide, by decide, by decide, by decide +kernel⟩, Gw_in (List.mem_of_getElem? (i := 818) (by decide +kernel)) rfl, Gw_in (List.mem_of_getElem? (i := 819) (by decide +kernel)) rfl⟩
theorem k_X3_81 : Cond.methodLink RX3 81 yX5_dearestWord ∈ Gw := Gw_in (List.mem_of_getElem? (i := 817) (by decide +kernel)) rfl
theorem k_X3_84 : Cond.methodLink RX3 84 yX0_plan ∈ Gw := Gw_in (List.mem_of_getElem? (i := 821) (by decide +kernel)) rfl
theorem l_X3_11 : FL RX3 11 RX3 TX3 6 1 := ⟨by decide, rfl, Gw_in (List.mem_of_getElem? (i := 241) (by decide +kernel)) rfl⟩
theorem k_X3_88 : Cond.methodLink RX3 88 yX0_rentOf ∈ Gw := Gw_in (List.mem_of_getElem? (i := 822) (by decide +kernel)) rfl
theorem l_X3_15 : FL RX3 15 RX3 TX3 6 2 := ⟨by decide, rfl, Gw_in (List.mem_of_getElem? (i := 242) (by decide +kernel)) rfl⟩
abbrev M_X3_weighPairs : MT := (yX3_weighPairs, cX3_weighPairs, 8, none)
theorem m_X3_weighPairs : MV M_X3_weighPairs 5 := ⟨⟨Gw_in (List.mem_of_getElem? (i := 816) (by decide +kernel)) rfl, Gw_in (List.mem_of_getElem? (i := 81) (by decide +kernel)) rfl, by decide, by decide, by decide, by decide +kernel⟩, Gw_in (List.mem_of_getElem? (i := 814) (by decide +kernel)) rfl, Gw_in (List.mem_of_getElem? (i := 815) (by decide +kernel)) rfl⟩
abbrev M_X3_pairsThatRest : MT := (yX3_pairsThatRest, cX3_pairsThatRest, 3, (some .int))
theorem m_X3_pairsThatRest : MV M_X3_pairsThatRest 0 := ⟨⟨Gw_in (List.mem_of_getElem? (i := 826) (by decide +kernel)) rfl, Gw_in (List.mem_of_getElem? (i := 81) (by decide +kernel)) rfl, by decide, by decide, by decide, by decide +kernel⟩, Gw_in (List.mem_of_getElem? (i := 824) (by decide +kernel)) rfl, Gw_in (List.mem_of_getElem? (i := 825) (by decide +kernel)) rfl⟩
theorem k_X3_102 : Cond.methodLink RX3 102 yX0_streets ∈ Gw := Gw_in (List.mem_of_getElem? (i := 905) (by decide +kernel)) rfl
theorem k_X3_105 : Cond.methodLink RX3 105 yX0_renamings ∈ Gw := Gw_in (List.mem_of_getElem? (i := 906) (by decide +kernel)) rfl
theorem t_X3_92 : Cond.constantLong RX3 92 (1103515245 : Int64) ∈ Gw := Gw_in (List.mem_of_getElem? (i := 900) (by decide +kernel)) rfl
theorem t_X3_94 : Cond.constantLong RX3 94 (12345 : Int64) ∈ Gw := Gw_in (List.mem_of_getElem? (i := 901) (by decide +kernel)) rfl
theorem t_X3_96 : Cond.constantLong RX3 96 (2147483648 : Int64) ∈ Gw := Gw_in (List.mem_of_getElem? (i := 902) (by decide +kernel)) rfl
theorem t_X3_98 : Cond.constantLong RX3 98 (65536 : Int64) ∈ Gw := Gw_in (List.mem_of_getElem? (i := 903) (by decide +kernel)) rfl
theorem t_X3_100 : Cond.constantLong RX3 100 (100 : Int64) ∈ Gw := Gw_in (List.mem_of_getElem? (i := 904) (by decide +kernel)) rfl
abbrev M_X3_renamingsOfDays : MT := (yX3_renamingsOfDays, cX3_renamingsOfDays, 11, (some .int))
theorem m_X3_renamingsOfDays : MV M_X3_renamingsOfDays 4 := ⟨⟨Gw_in (List.mem_of_getElem? (i := 899) (by decide +kernel)) rfl, Gw_in (List.mem_of_getElem? (i := 81) (by decide +kernel)) rfl, by decide, by decide, by decide, by decide +kernel⟩, Gw_in (List.mem_of_getElem? (i := 897) (by decide +kernel)) rfl, Gw_in (List.mem_of_getElem? (i := 898) (by decide +kernel)) rfl⟩
theorem l_X4_18 : FL RX4 18 RX4 TX4 6 2 := ⟨by decide, rfl, Gw_in (List.mem_of_getElem? (i := 165) (by decide +kernel)) rfl⟩
abbrev M_X4_size : MT := (yX4_size, cX4_size, 1, (some .int))
theorem m_X4_size : MV M_X4_size 0 := ⟨⟨Gw_in (List.mem_of_getElem? (i := 455) (by decide +kernel)) rfl, Gw_in (List.mem_of_getElem? (i := 78) (by decide +kernel)) rfl, by decide, by decide, by decide, by decide +kernel⟩, Gw_in (List.mem_of_getElem? (i := 453) (by decide +kernel)) rfl, Gw_in (List.mem_of_getElem? (i := 454) (by decide +kernel)) rfl⟩
abbrev M_X4_isFull : MT := (yX4_isFull, cX4_isFull, 1, (some .boolean))
theorem m_X4_isFull : MV M_X4_isFull 0 := ⟨⟨Gw_in (List.mem_of_getElem? (i := 446) (by decide +kernel)) rfl, Gw_in (List.mem_of_getElem? (i := 78) (by decide +kernel)) rfl, by decide, by decide, by decide, by decide +kernel⟩, Gw_in (List.mem_of_getElem? (i := 444) (by decide +kernel)) rfl, Gw_in (List.mem_of_getElem? (i := 445) (by decide +kernel)) rfl⟩
theorem k_X4_31 : Cond.methodLink RX4 31 yX4_isFull ∈ Gw := Gw_in (List.mem_of_getElem? (i := 451) (by decide +kernel)) rfl
theorem l_X4_9 : FL RX4 9 RX4 TX4 6 0 := ⟨by decide, rfl, Gw_in (List.mem_of_getElem? (i := 163) (by decide +kernel)) rfl⟩
theorem p_X4_2 : PF TX4 2 := ⟨rfl, by decide +kernel⟩
abbrev M_X4_add : MT := (yX4_add, cX4_add, 2, none)
theorem m_X4_add : MV M_X4_add 1 := ⟨⟨Gw_in (List.mem_of_getElem? (i := 450) (by decide +kernel)) rfl, Gw_in (List.mem_of_getElem? (i := 78) (by decide +kernel)) rfl, by decide, by decide, by decide, by decide +kernel⟩, Gw_in (List.mem_of_getElem? (i := 448) (by decide +kernel)) rfl, Gw_in (List.mem_of_getElem? (i := 449) (by decide +kernel)) rfl⟩
abbrev M_X4_empty : MT := (yX4_empty, cX4_empty, 1, none)
theorem m_X4_empty : MV M_X4_empty 0 := ⟨⟨Gw_in (List.mem_of_getElem? (i := 463) (by decide +kernel)) rfl, Gw_in (List.mem_of_getElem? (i := 78) (by decide +kernel)) rfl, by decide, by decide, by decide, by decide +kernel⟩, Gw_in (List.mem_of_getElem? (i := 461) (by decide +kernel)) rfl, Gw_in (List.mem_of_getElem? (i := 462) (by decide +kernel)) rfl⟩
theorem k_X4_100 : Cond.methodLinkNest RX4 100 yX7_isBelow "LastHappened" ∈ nestW := List.mem_filter.mpr ⟨List.mem_of_getElem? (i := 406) (by decide +kernel), rfl⟩
abbrev M_X4_byteAt : MT := (yX4_byteAt, cX4_byteAt, 2, (some .int))
theorem m_X4_byteAt : MV M_X4_byteAt 1 := ⟨⟨Gw_in (List.mem_of_getElem? (i := 479) (by decide +kernel)) rfl, Gw_in (List.mem_of_getElem? (i := 78) (by decide +kernel)) rfl, by decide, by decide, by decide, by decide +kernel⟩, Gw_in (List.mem_of_getElem? (i := 478) (by decide +kernel)) rfl, Gw_in (List.mem_of_getElem? (i := 8) (by decide +kernel)) rfl⟩
theorem k_X4_86 : Cond.methodLink RX4 86 yX4_byteAt ∈ Gw := Gw_in (List.mem_of_getElem? (i := 476) (by decide +kernel)) rfl
abbrev M_X4_isLetter : MT := (yX4_isLetter, cX4_isLetter, 2, (some .boolean))
theorem m_X4_isLetter : MV M_X4_isLetter 1 := ⟨⟨Gw_in (List.mem_of_getElem? (i := 484) (by decide +kernel)) rfl, Gw_in (List.mem_of_getElem? (i := 78) (by decide +kernel)) rfl, by decide, by decide, by decide, by decide +kernel⟩, Gw_in (List.mem_of_getElem? (i := 483) (by decide +kernel)) rfl, Gw_in (List.mem_of_getElem? (i := 9) (by decide +kernel)) rfl⟩
abbrev M_X4_isFigure : MT := (yX4_isFigure, cX4_isFigure, 2, (some .boolean))
theorem m_X4_isFigure : MV M_X4_isFigure 1 := ⟨⟨Gw_in (List.mem_of_getElem? (i := 488) (by decide +kernel)) rfl, Gw_in (List.mem_of_getElem? (i := 78) (by decide +kernel)) rfl, by decide, by decide, by decide, by decide +kernel⟩, Gw_in (List.mem_of_getElem? (i := 487) (by decide +kernel)) rfl, Gw_in (List.mem_of_getElem? (i := 10) (by decide +kernel)) rfl⟩
theorem l_X4_22 : FL RX4 22 RX4 TX4 6 3 := ⟨by decide, rfl, Gw_in (List.mem_of_getElem? (i := 166) (by decide +kernel)) rfl⟩
theorem l_X4_28 : FL RX4 28 RX4 TX4 6 5 := ⟨by decide, rfl, Gw_in (List.mem_of_getElem? (i := 168) (by decide +kernel)) rfl⟩
theorem p_X4_5 : PF TX4 5 := ⟨rfl, by decide +kernel⟩
theorem k_X4_94 : Cond.methodLink RX4 94 yX4_isLetter ∈ Gw := Gw_in (List.mem_of_getElem? (i := 481) (by decide +kernel)) rfl
theorem k_X4_97 : Cond.methodLink RX4 97 yX4_isFigure ∈ Gw := Gw_in (List.mem_of_getElem? (i := 485) (by decide +kernel)) rfl
theorem l_X4_25 : FL RX4 25 RX4 TX4 6 4 := ⟨by decide, rfl, Gw_in (List.mem_of_getElem? (i := 167) (by decide +kernel)) rfl⟩
theorem p_X4_4 : PF TX4 4 := ⟨rfl, by decide +kernel⟩
theorem p_X4_3 : PF TX4 3 := ⟨rfl, by decide +kernel⟩
abbrev M_X4_findToken : MT := (yX4_findToken, cX4_findToken, 1, none)
theorem m_X4_findToken : MV M_X4_findToken 0 := ⟨⟨Gw_in (List.mem_of_getElem? (i := 475) (by decide +kernel)) rfl, Gw_in (List.mem_of_getElem? (i := 78) (by decide +kernel)) rfl, by decide, by decide, by decide, by decide +kernel⟩, Gw_in (List.mem_of_getElem? (i := 474) (by decide +kernel)) rfl, Gw_in (List.mem_of_getElem? (i := 7) (by decide +kernel)) rfl⟩
theorem l_X5_26 : FL RX5 26 RX5 TX5 8 3 := ⟨by decide, rfl, Gw_in (List.mem_of_getElem? (i := 132) (by decide +kernel)) rfl⟩
theorem k_X5_65 : Cond.methodLink RX5 65 yX2_empty ∈ Gw := Gw_in (List.mem_of_getElem? (i := 363) (by decide +kernel)) rfl
abbrev M_X5_forgetPast : MT := (yX5_forgetPast, cX5_forgetPast, 1, none)
theorem m_X5_forgetPast : MV M_X5_forgetPast 0 := ⟨⟨Gw_in (List.mem_of_getElem? (i := 492) (by decide +kernel)) rfl, Gw_in (List.mem_of_getElem? (i := 76) (by decide +kernel)) rfl, by decide, by decide, by decide, by decide +kernel⟩, Gw_in (List.mem_of_getElem? (i := 490) (by decide +kernel)) rfl, Gw_in (List.mem_of_getElem? (i := 491) (by decide +kernel)) rfl⟩
theorem l_J0_38 : Cond.fieldLink RJ0 38 "java/lang/String" "COMPACT_STRINGS" "Z" ∈ Gw := Gw_in (by decide +kernel) rfl
theorem l_J0_15 : Cond.fieldLink RJ0 15 "java/lang/String" "coder" "B" ∈ Gw := Gw_in (List.mem_of_getElem? (i := 1385) (by decide +kernel)) rfl
abbrev M_J0_coder_7d493 : MT := (yJ0_coder_7d493, cJ0_coder_7d493, 1, (some .byte))
theorem m_J0_coder_7d493 : MV M_J0_coder_7d493 0 := ⟨⟨Gw_in (List.mem_of_getElem? (i := 513) (by decide +kernel)) rfl, Gw_in (List.mem_of_getElem? (i := 85) (by decide +kernel)) rfl, by decide, by decide, by decide, by decide +kernel⟩, Gw_in (List.mem_of_getElem? (i := 511) (by decide +kernel)) rfl, Gw_in (List.mem_of_getElem? (i := 512) (by decide +kernel)) rfl⟩
theorem l_J0_9 : Cond.fieldLink RJ0 9 "java/lang/String" "value" "[B" ∈ Gw := Gw_in (List.mem_of_getElem? (i := 1384) (by decide +kernel)) rfl
theorem k_J0_335 : Cond.methodLink RJ0 335 yJ0_coder_7d493 ∈ Gw := Gw_in (List.mem_of_getElem? (i := 510) (by decide +kernel)) rfl
abbrev M_J0_length_8abf5 : MT := (yJ0_length_8abf5, cJ0_length_8abf5, 1, (some .int))
theorem m_J0_length_8abf5 : MV M_J0_length_8abf5 0 := ⟨⟨Gw_in (List.mem_of_getElem? (i := 509) (by decide +kernel)) rfl, Gw_in (List.mem_of_getElem? (i := 85) (by decide +kernel)) rfl, by decide, by decide, by decide, by decide +kernel⟩, Gw_in (List.mem_of_getElem? (i := 507) (by decide +kernel)) rfl, Gw_in (List.mem_of_getElem? (i := 508) (by decide +kernel)) rfl⟩
abbrev M_J0_isLatin1_aae02 : MT := (yJ0_isLatin1_aae02, cJ0_isLatin1_aae02, 1, (some .boolean))
theorem m_J0_isLatin1_aae02 : MV M_J0_isLatin1_aae02 0 := ⟨⟨Gw_in (List.mem_of_getElem? (i := 523) (by decide +kernel)) rfl, Gw_in (List.mem_of_getElem? (i := 85) (by decide +kernel)) rfl, by decide, by decide, by decide, by decide +kernel⟩, Gw_in (List.mem_of_getElem? (i := 521) (by decide +kernel)) rfl, Gw_in (List.mem_of_getElem? (i := 522) (by decide +kernel)) rfl⟩
abbrev M_J3_checkIndex_8e157 : MT := (yJ3_checkIndex_8e157, cJ3_checkIndex_8e157, 3, (some .int))
theorem m_J3_checkIndex_8e157 : MS M_J3_checkIndex_8e157 3 := ⟨⟨Gw_in (List.mem_of_getElem? (i := 534) (by decide +kernel)) rfl, Gw_in (List.mem_of_getElem? (i := 87) (by decide +kernel)) rfl, by decide, by decide, by decide, by decide +kernel⟩, Gw_in (List.mem_of_getElem? (i := 533) (by decide +kernel)) rfl⟩
theorem l_J0_1053 : Cond.fieldLink RJ0 1053 "jdk/internal/util/Preconditions" "SIOOBE_FORMATTER" "Ljava/util/function/BiFunction;" ∈ Gw := Gw_in (by decide +kernel) rfl
theorem k_J0_1059 : Cond.methodLink RJ0 1059 yJ3_checkIndex_8e157 ∈ Gw := Gw_in (List.mem_of_getElem? (i := 532) (by decide +kernel)) rfl
abbrev M_J0_checkIndex_df160 : MT := (yJ0_checkIndex_df160, cJ0_checkIndex_df160, 2, none)
theorem m_J0_checkIndex_df160 : MS M_J0_checkIndex_df160 2 := ⟨⟨Gw_in (List.mem_of_getElem? (i := 529) (by decide +kernel)) rfl, Gw_in (List.mem_of_getElem? (i := 85) (by decide +kernel)) rfl, by decide, by decide, by decide, by decide +kernel⟩, Gw_in (List.mem_of_getElem? (i := 528) (by decide +kernel)) rfl⟩
theorem k_J1_9 : Cond.methodLink RJ1 9 yJ0_checkIndex_df160 ∈ Gw := Gw_in (List.mem_of_getElem? (i := 527) (by decide +kernel)) rfl
abbrev M_J1_charAt_3b067 : MT := (yJ1_charAt_3b067, cJ1_charAt_3b067, 2, (some .char))
theorem m_J1_charAt_3b067 : MS M_J1_charAt_3b067 2 := ⟨⟨Gw_in (List.mem_of_getElem? (i := 526) (by decide +kernel)) rfl, Gw_in (List.mem_of_getElem? (i := 86) (by decide +kernel)) rfl, by decide, by decide, by decide, by decide +kernel⟩, Gw_in (List.mem_of_getElem? (i := 525) (by decide +kernel)) rfl⟩
theorem k_J0_492 : Cond.methodLink RJ0 492 yJ0_isLatin1_aae02 ∈ Gw := Gw_in (List.mem_of_getElem? (i := 520) (by decide +kernel)) rfl
theorem k_J0_495 : Cond.methodLink RJ0 495 yJ1_charAt_3b067 ∈ Gw := Gw_in (List.mem_of_getElem? (i := 524) (by decide +kernel)) rfl
abbrev M_J0_charAt_5068e : MT := (yJ0_charAt_5068e, cJ0_charAt_5068e, 2, (some .char))
theorem m_J0_charAt_5068e : MV M_J0_charAt_5068e 1 := ⟨⟨Gw_in (List.mem_of_getElem? (i := 519) (by decide +kernel)) rfl, Gw_in (List.mem_of_getElem? (i := 85) (by decide +kernel)) rfl, by decide, by decide, by decide, by decide +kernel⟩, Gw_in (List.mem_of_getElem? (i := 517) (by decide +kernel)) rfl, Gw_in (List.mem_of_getElem? (i := 518) (by decide +kernel)) rfl⟩
theorem k_X4_81 : Cond.methodLink RX4 81 yJ0_length_8abf5 ∈ Gw := Gw_in (List.mem_of_getElem? (i := 506) (by decide +kernel)) rfl
theorem k_X4_90 : Cond.methodLink RX4 90 yJ0_charAt_5068e ∈ Gw := Gw_in (List.mem_of_getElem? (i := 516) (by decide +kernel)) rfl
abbrev M_X4_isWord : MT := (yX4_isWord, cX4_isWord, 3, (some .boolean))
theorem m_X4_isWord : MV M_X4_isWord 1 := ⟨⟨Gw_in (List.mem_of_getElem? (i := 505) (by decide +kernel)) rfl, Gw_in (List.mem_of_getElem? (i := 78) (by decide +kernel)) rfl, by decide, by decide, by decide, by decide +kernel⟩, Gw_in (List.mem_of_getElem? (i := 504) (by decide +kernel)) rfl, Gw_in (List.mem_of_getElem? (i := 13) (by decide +kernel)) rfl⟩
theorem k_X4_71 : Cond.methodLink RX4 71 yX4_isWord ∈ Gw := Gw_in (List.mem_of_getElem? (i := 502) (by decide +kernel)) rfl
abbrev M_X4_itemCalled : MT := (yX4_itemCalled, cX4_itemCalled, 1, (some .int))
theorem m_X4_itemCalled : MV M_X4_itemCalled 0 := ⟨⟨Gw_in (List.mem_of_getElem? (i := 500) (by decide +kernel)) rfl, Gw_in (List.mem_of_getElem? (i := 78) (by decide +kernel)) rfl, by decide, by decide, by decide, by decide +kernel⟩, Gw_in (List.mem_of_getElem? (i := 499) (by decide +kernel)) rfl, Gw_in (List.mem_of_getElem? (i := 12) (by decide +kernel)) rfl⟩
theorem k_X5_57 : Cond.methodLink RX5 57 yX2_isFull ∈ Gw := Gw_in (List.mem_of_getElem? (i := 347) (by decide +kernel)) rfl
abbrev M_X5_hasNoRoomFor : MT := (yX5_hasNoRoomFor, cX5_hasNoRoomFor, 2, (some .boolean))
theorem m_X5_hasNoRoomFor : MV M_X5_hasNoRoomFor 1 := ⟨⟨Gw_in (List.mem_of_getElem? (i := 346) (by decide +kernel)) rfl, Gw_in (List.mem_of_getElem? (i := 76) (by decide +kernel)) rfl, by decide, by decide, by decide, by decide +kernel⟩, Gw_in (List.mem_of_getElem? (i := 344) (by decide +kernel)) rfl, Gw_in (List.mem_of_getElem? (i := 345) (by decide +kernel)) rfl⟩
abbrev M_X4_value : MT := (yX4_value, cX4_value, 3, (some .int))
theorem m_X4_value : MV M_X4_value 0 := ⟨⟨Gw_in (List.mem_of_getElem? (i := 562) (by decide +kernel)) rfl, Gw_in (List.mem_of_getElem? (i := 78) (by decide +kernel)) rfl, by decide, by decide, by decide, by decide +kernel⟩, Gw_in (List.mem_of_getElem? (i := 561) (by decide +kernel)) rfl, Gw_in (List.mem_of_getElem? (i := 14) (by decide +kernel)) rfl⟩
theorem l_X5_43 : Cond.fieldLinkNest RX5 43 "LastHappened" (tabN 0) "[I" "LastHappened" ∈ nestW := by decide +kernel
theorem l_X5_54 : Cond.fieldLinkNest RX5 54 "LastHappened" (tabN 1) "[I" "LastHappened" ∈ nestW := by decide +kernel
abbrev M_X5_fits : MT := (yX5_fits, cX5_fits, 5, (some .boolean))
theorem m_X5_fits : MV M_X5_fits 3 := ⟨⟨Gw_in (List.mem_of_getElem? (i := 328) (by decide +kernel)) rfl, Gw_in (List.mem_of_getElem? (i := 76) (by decide +kernel)) rfl, by decide, by decide, by decide, by decide +kernel⟩, Gw_in (List.mem_of_getElem? (i := 326) (by decide +kernel)) rfl, Gw_in (List.mem_of_getElem? (i := 327) (by decide +kernel)) rfl⟩
theorem l_X5_23 : FL RX5 23 RX5 TX5 8 2 := ⟨by decide, rfl, Gw_in (List.mem_of_getElem? (i := 129) (by decide +kernel)) rfl⟩
theorem l_X5_39 : FL RX5 39 RX5 TX5 8 7 := ⟨by decide, rfl, Gw_in (List.mem_of_getElem? (i := 137) (by decide +kernel)) rfl⟩
theorem p_X5_7 : PF TX5 7 := ⟨rfl, by decide +kernel⟩
abbrev M_X5_begin : MT := (yX5_begin, cX5_begin, 4, (some .int))
theorem m_X5_begin : MV M_X5_begin 1 := ⟨⟨Gw_in (List.mem_of_getElem? (i := 362) (by decide +kernel)) rfl, Gw_in (List.mem_of_getElem? (i := 76) (by decide +kernel)) rfl, by decide, by decide, by decide, by decide +kernel⟩, Gw_in (List.mem_of_getElem? (i := 361) (by decide +kernel)) rfl, Gw_in (List.mem_of_getElem? (i := 3) (by decide +kernel)) rfl⟩
theorem l_X5_33 : FL RX5 33 RX5 TX5 8 5 := ⟨by decide, rfl, Gw_in (List.mem_of_getElem? (i := 135) (by decide +kernel)) rfl⟩
theorem k_X5_68 : Cond.methodLink RX5 68 yX2_add ∈ Gw := Gw_in (List.mem_of_getElem? (i := 367) (by decide +kernel)) rfl
theorem k_X5_79 : Cond.methodLink RX5 79 yX2_drop ∈ Gw := Gw_in (List.mem_of_getElem? (i := 387) (by decide +kernel)) rfl
abbrev M_X5_remember : MT := (yX5_remember, cX5_remember, 2, none)
theorem m_X5_remember : MV M_X5_remember 0 := ⟨⟨Gw_in (List.mem_of_getElem? (i := 382) (by decide +kernel)) rfl, Gw_in (List.mem_of_getElem? (i := 76) (by decide +kernel)) rfl, by decide, by decide, by decide, by decide +kernel⟩, Gw_in (List.mem_of_getElem? (i := 381) (by decide +kernel)) rfl, Gw_in (List.mem_of_getElem? (i := 4) (by decide +kernel)) rfl⟩
abbrev M_X5_changeRent : MT := (yX5_changeRent, cX5_changeRent, 4, (some .int))
theorem m_X5_changeRent : MV M_X5_changeRent 2 := ⟨⟨Gw_in (List.mem_of_getElem? (i := 395) (by decide +kernel)) rfl, Gw_in (List.mem_of_getElem? (i := 76) (by decide +kernel)) rfl, by decide, by decide, by decide, by decide +kernel⟩, Gw_in (List.mem_of_getElem? (i := 394) (by decide +kernel)) rfl, Gw_in (List.mem_of_getElem? (i := 5) (by decide +kernel)) rfl⟩
theorem k_X5_61 : Cond.methodLink RX5 61 yX5_begin ∈ Gw := Gw_in (List.mem_of_getElem? (i := 359) (by decide +kernel)) rfl
theorem k_X5_72 : Cond.methodLink RX5 72 yX5_remember ∈ Gw := Gw_in (List.mem_of_getElem? (i := 379) (by decide +kernel)) rfl
theorem k_X5_75 : Cond.methodLink RX5 75 yX5_changeRent ∈ Gw := Gw_in (List.mem_of_getElem? (i := 392) (by decide +kernel)) rfl
abbrev M_X5_take : MT := (yX5_take, cX5_take, 3, (some .int))
theorem m_X5_take : MV M_X5_take 2 := ⟨⟨Gw_in (List.mem_of_getElem? (i := 358) (by decide +kernel)) rfl, Gw_in (List.mem_of_getElem? (i := 76) (by decide +kernel)) rfl, by decide, by decide, by decide, by decide +kernel⟩, Gw_in (List.mem_of_getElem? (i := 356) (by decide +kernel)) rfl, Gw_in (List.mem_of_getElem? (i := 357) (by decide +kernel)) rfl⟩
theorem k_X4_47 : Cond.methodLink RX4 47 yX4_itemCalled ∈ Gw := Gw_in (List.mem_of_getElem? (i := 497) (by decide +kernel)) rfl
theorem k_X4_51 : Cond.methodLink RX4 51 yX5_hasNoRoomFor ∈ Gw := Gw_in (List.mem_of_getElem? (i := 557) (by decide +kernel)) rfl
theorem k_X4_35 : Cond.methodLink RX4 35 yX4_findToken ∈ Gw := Gw_in (List.mem_of_getElem? (i := 472) (by decide +kernel)) rfl
theorem l_X4_15 : FL RX4 15 RX4 TX4 6 1 := ⟨by decide, rfl, Gw_in (List.mem_of_getElem? (i := 164) (by decide +kernel)) rfl⟩
theorem k_X4_65 : Cond.methodLink RX4 65 yX5_take ∈ Gw := Gw_in (List.mem_of_getElem? (i := 564) (by decide +kernel)) rfl
theorem l_X4_55 : Cond.fieldLinkNest RX4 55 "LastHappened" (tabN 0) "[I" "LastHappened" ∈ nestW := by decide +kernel
theorem k_X4_58 : Cond.methodLink RX4 58 yX4_value ∈ Gw := Gw_in (List.mem_of_getElem? (i := 559) (by decide +kernel)) rfl
theorem k_X4_61 : Cond.methodLink RX4 61 yX5_fits ∈ Gw := Gw_in (List.mem_of_getElem? (i := 563) (by decide +kernel)) rfl
abbrev M_X4_takeItem : MT := (yX4_takeItem, cX4_takeItem, 5, (some .boolean))
theorem m_X4_takeItem : MV M_X4_takeItem 2 := ⟨⟨Gw_in (List.mem_of_getElem? (i := 496) (by decide +kernel)) rfl, Gw_in (List.mem_of_getElem? (i := 78) (by decide +kernel)) rfl, by decide, by decide, by decide, by decide +kernel⟩, Gw_in (List.mem_of_getElem? (i := 495) (by decide +kernel)) rfl, Gw_in (List.mem_of_getElem? (i := 11) (by decide +kernel)) rfl⟩
theorem k_X4_43 : Cond.methodLink RX4 43 yX4_takeItem ∈ Gw := Gw_in (List.mem_of_getElem? (i := 493) (by decide +kernel)) rfl
theorem k_X4_38 : Cond.methodLink RX4 38 yX5_forgetPast ∈ Gw := Gw_in (List.mem_of_getElem? (i := 489) (by decide +kernel)) rfl
abbrev M_X4_readInto : MT := (yX4_readInto, cX4_readInto, 3, (some .int))
theorem m_X4_readInto : MV M_X4_readInto 1 := ⟨⟨Gw_in (List.mem_of_getElem? (i := 471) (by decide +kernel)) rfl, Gw_in (List.mem_of_getElem? (i := 78) (by decide +kernel)) rfl, by decide, by decide, by decide, by decide +kernel⟩, Gw_in (List.mem_of_getElem? (i := 469) (by decide +kernel)) rfl, Gw_in (List.mem_of_getElem? (i := 470) (by decide +kernel)) rfl⟩
abbrev M_X5_dropEvent : MT := (yX5_dropEvent, cX5_dropEvent, 2, none)
theorem m_X5_dropEvent : MV M_X5_dropEvent 1 := ⟨⟨Gw_in (List.mem_of_getElem? (i := 413) (by decide +kernel)) rfl, Gw_in (List.mem_of_getElem? (i := 76) (by decide +kernel)) rfl, by decide, by decide, by decide, by decide +kernel⟩, Gw_in (List.mem_of_getElem? (i := 411) (by decide +kernel)) rfl, Gw_in (List.mem_of_getElem? (i := 412) (by decide +kernel)) rfl⟩
abbrev M_X5_changeLaw : MT := (yX5_changeLaw, cX5_changeLaw, 3, (some .int))
theorem m_X5_changeLaw : MV M_X5_changeLaw 1 := ⟨⟨Gw_in (List.mem_of_getElem? (i := 422) (by decide +kernel)) rfl, Gw_in (List.mem_of_getElem? (i := 76) (by decide +kernel)) rfl, by decide, by decide, by decide, by decide +kernel⟩, Gw_in (List.mem_of_getElem? (i := 420) (by decide +kernel)) rfl, Gw_in (List.mem_of_getElem? (i := 421) (by decide +kernel)) rfl⟩
theorem l_X5_36 : FL RX5 36 RX5 TX5 8 6 := ⟨by decide, rfl, Gw_in (List.mem_of_getElem? (i := 136) (by decide +kernel)) rfl⟩
abbrev M_X5_goBack : MT := (yX5_goBack, cX5_goBack, 4, none)
theorem m_X5_goBack : MV M_X5_goBack 0 := ⟨⟨Gw_in (List.mem_of_getElem? (i := 434) (by decide +kernel)) rfl, Gw_in (List.mem_of_getElem? (i := 76) (by decide +kernel)) rfl, by decide, by decide, by decide, by decide +kernel⟩, Gw_in (List.mem_of_getElem? (i := 432) (by decide +kernel)) rfl, Gw_in (List.mem_of_getElem? (i := 433) (by decide +kernel)) rfl⟩
theorem k_X5_104 : Cond.methodLink RX5 104 yX2_copy ∈ Gw := Gw_in (List.mem_of_getElem? (i := 569) (by decide +kernel)) rfl
theorem k_X5_108 : CPW RX5 108 := ⟨Gw_in (by decide +kernel) rfl, Gw_in (by decide +kernel) rfl, Gw_in (by decide +kernel) rfl, Gw_in (by decide +kernel) rfl⟩
abbrev M_X5_copy : MT := (yX5_copy, cX5_copy, 2, none)
theorem m_X5_copy : MV M_X5_copy 1 := ⟨⟨Gw_in (List.mem_of_getElem? (i := 568) (by decide +kernel)) rfl, Gw_in (List.mem_of_getElem? (i := 76) (by decide +kernel)) rfl, by decide, by decide, by decide, by decide +kernel⟩, Gw_in (List.mem_of_getElem? (i := 566) (by decide +kernel)) rfl, Gw_in (List.mem_of_getElem? (i := 567) (by decide +kernel)) rfl⟩
theorem k_X5_114 : Cond.methodLink RX5 114 yX2_mixInto ∈ Gw := Gw_in (List.mem_of_getElem? (i := 942) (by decide +kernel)) rfl
theorem t_X5_118 : Cond.constantLong RX5 118 (31 : Int64) ∈ Gw := Gw_in (List.mem_of_getElem? (i := 947) (by decide +kernel)) rfl
abbrev M_X5_mixInto : MT := (yX5_mixInto, cX5_mixInto, 6, (some .long))
theorem m_X5_mixInto : MV M_X5_mixInto 1 := ⟨⟨Gw_in (List.mem_of_getElem? (i := 941) (by decide +kernel)) rfl, Gw_in (List.mem_of_getElem? (i := 76) (by decide +kernel)) rfl, by decide, by decide, by decide, by decide +kernel⟩, Gw_in (List.mem_of_getElem? (i := 939) (by decide +kernel)) rfl, Gw_in (List.mem_of_getElem? (i := 940) (by decide +kernel)) rfl⟩
theorem k_X6_18 : Cond.methodLinkNest RX6 18 yX7_isBelow "LastHappened" ∈ nestW := List.mem_filter.mpr ⟨List.mem_of_getElem? (i := 761) (by decide +kernel), rfl⟩
theorem l_X6_9 : FL RX6 9 RX6 TX6 2 0 := ⟨by decide, rfl, Gw_in (List.mem_of_getElem? (i := 265) (by decide +kernel)) rfl⟩
theorem k_X6_31 : MMW RX6 31 Lib.Math.min.name Lib.Math.min.code := ⟨Gw_in (by decide +kernel) rfl, Gw_in (by decide +kernel) rfl, Gw_in (by decide +kernel) rfl, Gw_in (by decide +kernel) rfl⟩
abbrev M_X6_shorten : MT := (yX6_shorten, cX6_shorten, 4, none)
theorem m_X6_shorten : MV M_X6_shorten 3 := ⟨⟨Gw_in (List.mem_of_getElem? (i := 846) (by decide +kernel)) rfl, Gw_in (List.mem_of_getElem? (i := 82) (by decide +kernel)) rfl, by decide, by decide, by decide, by decide +kernel⟩, Gw_in (List.mem_of_getElem? (i := 845) (by decide +kernel)) rfl, Gw_in (List.mem_of_getElem? (i := 28) (by decide +kernel)) rfl⟩
theorem k_X6_46 : Cond.methodLink RX6 46 yX6_shorten ∈ Gw := Gw_in (List.mem_of_getElem? (i := 843) (by decide +kernel)) rfl
theorem k_X6_37 : Cond.methodLink RX6 37 yX2_size ∈ Gw := Gw_in (List.mem_of_getElem? (i := 841) (by decide +kernel)) rfl
theorem k_X6_43 : Cond.methodLink RX6 43 yX2_cell ∈ Gw := Gw_in (List.mem_of_getElem? (i := 842) (by decide +kernel)) rfl
theorem t_X6_26 : Cond.constant RX6 26 (nI 1000000) ∈ Gw := Gw_in (List.mem_of_getElem? (i := 840) (by decide +kernel)) rfl
abbrev M_X6_measure : MT := (yX6_measure, cX6_measure, 5, none)
theorem m_X6_measure : MV M_X6_measure 1 := ⟨⟨Gw_in (List.mem_of_getElem? (i := 839) (by decide +kernel)) rfl, Gw_in (List.mem_of_getElem? (i := 82) (by decide +kernel)) rfl, by decide, by decide, by decide, by decide +kernel⟩, Gw_in (List.mem_of_getElem? (i := 838) (by decide +kernel)) rfl, Gw_in (List.mem_of_getElem? (i := 27) (by decide +kernel)) rfl⟩
theorem l_X6_15 : FL RX6 15 RX6 TX6 2 1 := ⟨by decide, rfl, Gw_in (List.mem_of_getElem? (i := 266) (by decide +kernel)) rfl⟩
abbrev M_X6_soonest : MT := (yX6_soonest, cX6_soonest, 5, (some .int))
theorem m_X6_soonest : MV M_X6_soonest 2 := ⟨⟨Gw_in (List.mem_of_getElem? (i := 858) (by decide +kernel)) rfl, Gw_in (List.mem_of_getElem? (i := 82) (by decide +kernel)) rfl, by decide, by decide, by decide, by decide +kernel⟩, Gw_in (List.mem_of_getElem? (i := 857) (by decide +kernel)) rfl, Gw_in (List.mem_of_getElem? (i := 30) (by decide +kernel)) rfl⟩
abbrev M_X6_reach : MT := (yX6_reach, cX6_reach, 5, none)
theorem m_X6_reach : MV M_X6_reach 3 := ⟨⟨Gw_in (List.mem_of_getElem? (i := 862) (by decide +kernel)) rfl, Gw_in (List.mem_of_getElem? (i := 82) (by decide +kernel)) rfl, by decide, by decide, by decide, by decide +kernel⟩, Gw_in (List.mem_of_getElem? (i := 861) (by decide +kernel)) rfl, Gw_in (List.mem_of_getElem? (i := 31) (by decide +kernel)) rfl⟩
theorem k_X6_50 : Cond.methodLinkNest RX6 50 yX7_holds "LastHappened" ∈ nestW := List.mem_filter.mpr ⟨List.mem_of_getElem? (i := 780) (by decide +kernel), rfl⟩
theorem k_X6_53 : Cond.methodLink RX6 53 yX6_soonest ∈ Gw := Gw_in (List.mem_of_getElem? (i := 855) (by decide +kernel)) rfl
theorem k_X6_56 : Cond.methodLink RX6 56 yX6_reach ∈ Gw := Gw_in (List.mem_of_getElem? (i := 859) (by decide +kernel)) rfl
abbrev M_X6_goOn : MT := (yX6_goOn, cX6_goOn, 9, none)
theorem m_X6_goOn : MV M_X6_goOn 3 := ⟨⟨Gw_in (List.mem_of_getElem? (i := 853) (by decide +kernel)) rfl, Gw_in (List.mem_of_getElem? (i := 82) (by decide +kernel)) rfl, by decide, by decide, by decide, by decide +kernel⟩, Gw_in (List.mem_of_getElem? (i := 852) (by decide +kernel)) rfl, Gw_in (List.mem_of_getElem? (i := 29) (by decide +kernel)) rfl⟩
theorem k_X6_22 : Cond.methodLink RX6 22 yX6_measure ∈ Gw := Gw_in (List.mem_of_getElem? (i := 836) (by decide +kernel)) rfl
theorem k_X6_27 : Cond.methodLink RX6 27 yX6_goOn ∈ Gw := Gw_in (List.mem_of_getElem? (i := 850) (by decide +kernel)) rfl
abbrev M_X6_shortest : MT := (yX6_shortest, cX6_shortest, 6, (some .int))
theorem m_X6_shortest : MV M_X6_shortest 3 := ⟨⟨Gw_in (List.mem_of_getElem? (i := 834) (by decide +kernel)) rfl, Gw_in (List.mem_of_getElem? (i := 82) (by decide +kernel)) rfl, by decide, by decide, by decide, by decide +kernel⟩, Gw_in (List.mem_of_getElem? (i := 832) (by decide +kernel)) rfl, Gw_in (List.mem_of_getElem? (i := 833) (by decide +kernel)) rfl⟩
theorem l_X7_70 : FL RX7 70 RX7 TX7 14 11 := ⟨by decide, rfl, Gw_in (List.mem_of_getElem? (i := 283) (by decide +kernel)) rfl⟩
theorem p_X7_11 : PF TX7 11 := ⟨rfl, by decide +kernel⟩
abbrev M_X7_refuseBad : MT := (yX7_refuseBad, cX7_refuseBad, 1, (some .int))
theorem m_X7_refuseBad : MV M_X7_refuseBad 0 := ⟨⟨Gw_in (List.mem_of_getElem? (i := 342) (by decide +kernel)) rfl, Gw_in (List.mem_of_getElem? (i := 75) (by decide +kernel)) rfl, by decide, by decide, by decide, by decide +kernel⟩, Gw_in (List.mem_of_getElem? (i := 341) (by decide +kernel)) rfl, Gw_in (List.mem_of_getElem? (i := 1) (by decide +kernel)) rfl⟩
theorem l_X7_76 : FL RX7 76 RX7 TX7 14 13 := ⟨by decide, rfl, Gw_in (List.mem_of_getElem? (i := 285) (by decide +kernel)) rfl⟩
theorem p_X7_13 : PF TX7 13 := ⟨rfl, by decide +kernel⟩
abbrev M_X7_refuseFull : MT := (yX7_refuseFull, cX7_refuseFull, 1, (some .int))
theorem m_X7_refuseFull : MV M_X7_refuseFull 0 := ⟨⟨Gw_in (List.mem_of_getElem? (i := 354) (by decide +kernel)) rfl, Gw_in (List.mem_of_getElem? (i := 75) (by decide +kernel)) rfl, by decide, by decide, by decide, by decide +kernel⟩, Gw_in (List.mem_of_getElem? (i := 353) (by decide +kernel)) rfl, Gw_in (List.mem_of_getElem? (i := 2) (by decide +kernel)) rfl⟩
theorem l_X7_10 : FL RX7 10 RX7 TX7 14 0 := ⟨by decide, rfl, Gw_in (List.mem_of_getElem? (i := 272) (by decide +kernel)) rfl⟩
theorem k_X7_265 : Cond.methodLink RX7 265 yX5_hasNoRoomFor ∈ Gw := Gw_in (List.mem_of_getElem? (i := 343) (by decide +kernel)) rfl
theorem l_X7_62 : FL RX7 62 RX7 TX7 14 9 := ⟨by decide, rfl, Gw_in (List.mem_of_getElem? (i := 281) (by decide +kernel)) rfl⟩
theorem k_X7_268 : Cond.methodLink RX7 268 yX5_take ∈ Gw := Gw_in (List.mem_of_getElem? (i := 355) (by decide +kernel)) rfl
theorem k_X7_123 : Cond.methodLink RX7 123 yX7_refuseFull ∈ Gw := Gw_in (List.mem_of_getElem? (i := 351) (by decide +kernel)) rfl
theorem l_X7_258 : Cond.fieldLink RX7 258 "LastHappened" (tabN 0) "[I" ∈ Gw := Gw_in (by decide +kernel) rfl
theorem k_X7_261 : Cond.methodLink RX7 261 yX5_fits ∈ Gw := Gw_in (List.mem_of_getElem? (i := 325) (by decide +kernel)) rfl
theorem k_X7_97 : Cond.methodLink RX7 97 yX7_refuseBad ∈ Gw := Gw_in (List.mem_of_getElem? (i := 339) (by decide +kernel)) rfl
abbrev M_X7_tell : MT := (yX7_tell, cX7_tell, 3, (some .int))
theorem m_X7_tell : MV M_X7_tell 1 := ⟨⟨Gw_in (List.mem_of_getElem? (i := 322) (by decide +kernel)) rfl, Gw_in (List.mem_of_getElem? (i := 75) (by decide +kernel)) rfl, by decide, by decide, by decide, by decide +kernel⟩, Gw_in (List.mem_of_getElem? (i := 321) (by decide +kernel)) rfl, Gw_in (List.mem_of_getElem? (i := 0) (by decide +kernel)) rfl⟩
theorem k_X7_79 : Cond.methodLink RX7 79 yX7_tell ∈ Gw := Gw_in (List.mem_of_getElem? (i := 319) (by decide +kernel)) rfl
abbrev M_X7_town : MT := (yX7_town, cX7_town, 2, (some .int))
theorem m_X7_town : MV M_X7_town 1 := ⟨⟨Gw_in (List.mem_of_getElem? (i := 318) (by decide +kernel)) rfl, Gw_in (List.mem_of_getElem? (i := 75) (by decide +kernel)) rfl, by decide, by decide, by decide, by decide +kernel⟩, Gw_in (List.mem_of_getElem? (i := 316) (by decide +kernel)) rfl, Gw_in (List.mem_of_getElem? (i := 317) (by decide +kernel)) rfl⟩
abbrev M_X7_street : MT := (yX7_street, cX7_street, 5, (some .int))
theorem m_X7_street : MV M_X7_street 4 := ⟨⟨Gw_in (List.mem_of_getElem? (i := 399) (by decide +kernel)) rfl, Gw_in (List.mem_of_getElem? (i := 75) (by decide +kernel)) rfl, by decide, by decide, by decide, by decide +kernel⟩, Gw_in (List.mem_of_getElem? (i := 397) (by decide +kernel)) rfl, Gw_in (List.mem_of_getElem? (i := 398) (by decide +kernel)) rfl⟩
abbrev M_X7_event : MT := (yX7_event, cX7_event, 7, (some .int))
theorem m_X7_event : MV M_X7_event 6 := ⟨⟨Gw_in (List.mem_of_getElem? (i := 403) (by decide +kernel)) rfl, Gw_in (List.mem_of_getElem? (i := 75) (by decide +kernel)) rfl, by decide, by decide, by decide, by decide +kernel⟩, Gw_in (List.mem_of_getElem? (i := 401) (by decide +kernel)) rfl, Gw_in (List.mem_of_getElem? (i := 402) (by decide +kernel)) rfl⟩
theorem l_X7_83 : FLN RX7 83 RX5 TX5 8 1 := ⟨by decide, rfl, List.mem_filter.mpr ⟨List.mem_of_getElem? (i := 54) (by decide +kernel), rfl⟩⟩
theorem k_X7_87 : Cond.methodLink RX7 87 yX2_size ∈ Gw := Gw_in (List.mem_of_getElem? (i := 408) (by decide +kernel)) rfl
theorem k_X7_100 : Cond.methodLink RX7 100 yX5_dropEvent ∈ Gw := Gw_in (List.mem_of_getElem? (i := 410) (by decide +kernel)) rfl
abbrev M_X7_back : MT := (yX7_back, cX7_back, 2, (some .int))
theorem m_X7_back : MV M_X7_back 1 := ⟨⟨Gw_in (List.mem_of_getElem? (i := 407) (by decide +kernel)) rfl, Gw_in (List.mem_of_getElem? (i := 75) (by decide +kernel)) rfl, by decide, by decide, by decide, by decide +kernel⟩, Gw_in (List.mem_of_getElem? (i := 405) (by decide +kernel)) rfl, Gw_in (List.mem_of_getElem? (i := 406) (by decide +kernel)) rfl⟩
theorem l_X7_104 : Cond.fieldLink RX7 104 "LastHappened" (tabN 1) "[I" ∈ Gw := Gw_in (by decide +kernel) rfl
theorem k_X7_107 : Cond.methodLink RX7 107 yX5_changeLaw ∈ Gw := Gw_in (List.mem_of_getElem? (i := 419) (by decide +kernel)) rfl
abbrev M_X7_law : MT := (yX7_law, cX7_law, 2, (some .int))
theorem m_X7_law : MV M_X7_law 1 := ⟨⟨Gw_in (List.mem_of_getElem? (i := 417) (by decide +kernel)) rfl, Gw_in (List.mem_of_getElem? (i := 75) (by decide +kernel)) rfl, by decide, by decide, by decide, by decide +kernel⟩, Gw_in (List.mem_of_getElem? (i := 415) (by decide +kernel)) rfl, Gw_in (List.mem_of_getElem? (i := 416) (by decide +kernel)) rfl⟩
theorem l_X7_73 : FL RX7 73 RX7 TX7 14 12 := ⟨by decide, rfl, Gw_in (List.mem_of_getElem? (i := 284) (by decide +kernel)) rfl⟩
theorem p_X7_12 : PF TX7 12 := ⟨rfl, by decide +kernel⟩
abbrev M_X7_refuseNo : MT := (yX7_refuseNo, cX7_refuseNo, 1, (some .int))
theorem m_X7_refuseNo : MV M_X7_refuseNo 0 := ⟨⟨Gw_in (List.mem_of_getElem? (i := 430) (by decide +kernel)) rfl, Gw_in (List.mem_of_getElem? (i := 75) (by decide +kernel)) rfl, by decide, by decide, by decide, by decide +kernel⟩, Gw_in (List.mem_of_getElem? (i := 429) (by decide +kernel)) rfl, Gw_in (List.mem_of_getElem? (i := 6) (by decide +kernel)) rfl⟩
theorem l_X7_110 : FLN RX7 110 RX5 TX5 8 3 := ⟨by decide, rfl, List.mem_filter.mpr ⟨List.mem_of_getElem? (i := 59) (by decide +kernel), rfl⟩⟩
theorem k_X7_116 : Cond.methodLink RX7 116 yX5_goBack ∈ Gw := Gw_in (List.mem_of_getElem? (i := 431) (by decide +kernel)) rfl
theorem k_X7_113 : Cond.methodLink RX7 113 yX7_refuseNo ∈ Gw := Gw_in (List.mem_of_getElem? (i := 427) (by decide +kernel)) rfl
abbrev M_X7_undo : MT := (yX7_undo, cX7_undo, 1, (some .int))
theorem m_X7_undo : MV M_X7_undo 0 := ⟨⟨Gw_in (List.mem_of_getElem? (i := 426) (by decide +kernel)) rfl, Gw_in (List.mem_of_getElem? (i := 75) (by decide +kernel)) rfl, by decide, by decide, by decide, by decide +kernel⟩, Gw_in (List.mem_of_getElem? (i := 424) (by decide +kernel)) rfl, Gw_in (List.mem_of_getElem? (i := 425) (by decide +kernel)) rfl⟩
abbrev M_X7_rent : MT := (yX7_rent, cX7_rent, 3, (some .int))
theorem m_X7_rent : MV M_X7_rent 2 := ⟨⟨Gw_in (List.mem_of_getElem? (i := 438) (by decide +kernel)) rfl, Gw_in (List.mem_of_getElem? (i := 75) (by decide +kernel)) rfl, by decide, by decide, by decide, by decide +kernel⟩, Gw_in (List.mem_of_getElem? (i := 436) (by decide +kernel)) rfl, Gw_in (List.mem_of_getElem? (i := 437) (by decide +kernel)) rfl⟩
theorem l_X7_28 : FL RX7 28 RX7 TX7 14 4 := ⟨by decide, rfl, Gw_in (List.mem_of_getElem? (i := 276) (by decide +kernel)) rfl⟩
theorem k_X7_119 : Cond.methodLink RX7 119 yX4_isFull ∈ Gw := Gw_in (List.mem_of_getElem? (i := 443) (by decide +kernel)) rfl
theorem k_X7_126 : Cond.methodLink RX7 126 yX4_add ∈ Gw := Gw_in (List.mem_of_getElem? (i := 447) (by decide +kernel)) rfl
theorem k_X7_129 : Cond.methodLink RX7 129 yX4_size ∈ Gw := Gw_in (List.mem_of_getElem? (i := 452) (by decide +kernel)) rfl
abbrev M_X7_type : MT := (yX7_type, cX7_type, 2, (some .int))
theorem m_X7_type : MV M_X7_type 1 := ⟨⟨Gw_in (List.mem_of_getElem? (i := 442) (by decide +kernel)) rfl, Gw_in (List.mem_of_getElem? (i := 75) (by decide +kernel)) rfl, by decide, by decide, by decide, by decide +kernel⟩, Gw_in (List.mem_of_getElem? (i := 440) (by decide +kernel)) rfl, Gw_in (List.mem_of_getElem? (i := 441) (by decide +kernel)) rfl⟩
theorem k_X7_130 : Cond.methodLink RX7 130 yX4_empty ∈ Gw := Gw_in (List.mem_of_getElem? (i := 460) (by decide +kernel)) rfl
abbrev M_X7_clear : MT := (yX7_clear, cX7_clear, 2, (some .int))
theorem m_X7_clear : MV M_X7_clear 0 := ⟨⟨Gw_in (List.mem_of_getElem? (i := 459) (by decide +kernel)) rfl, Gw_in (List.mem_of_getElem? (i := 75) (by decide +kernel)) rfl, by decide, by decide, by decide, by decide +kernel⟩, Gw_in (List.mem_of_getElem? (i := 457) (by decide +kernel)) rfl, Gw_in (List.mem_of_getElem? (i := 458) (by decide +kernel)) rfl⟩
theorem l_X7_16 : FL RX7 16 RX7 TX7 14 1 := ⟨by decide, rfl, Gw_in (List.mem_of_getElem? (i := 273) (by decide +kernel)) rfl⟩
theorem k_X7_133 : Cond.methodLink RX7 133 yX4_readInto ∈ Gw := Gw_in (List.mem_of_getElem? (i := 468) (by decide +kernel)) rfl
theorem k_X7_137 : Cond.methodLink RX7 137 yX5_copy ∈ Gw := Gw_in (List.mem_of_getElem? (i := 565) (by decide +kernel)) rfl
abbrev M_X7_read : MT := (yX7_read, cX7_read, 2, (some .int))
theorem m_X7_read : MV M_X7_read 0 := ⟨⟨Gw_in (List.mem_of_getElem? (i := 467) (by decide +kernel)) rfl, Gw_in (List.mem_of_getElem? (i := 75) (by decide +kernel)) rfl, by decide, by decide, by decide, by decide +kernel⟩, Gw_in (List.mem_of_getElem? (i := 465) (by decide +kernel)) rfl, Gw_in (List.mem_of_getElem? (i := 466) (by decide +kernel)) rfl⟩
theorem k_X7_141 : Cond.methodLink RX7 141 yX5_needed ∈ Gw := Gw_in (List.mem_of_getElem? (i := 579) (by decide +kernel)) rfl
theorem k_X7_144 : Cond.methodLink RX7 144 yX5_rankGiven ∈ Gw := Gw_in (List.mem_of_getElem? (i := 589) (by decide +kernel)) rfl
theorem k_X7_147 : Cond.methodLink RX7 147 yX5_hoursGiven ∈ Gw := Gw_in (List.mem_of_getElem? (i := 598) (by decide +kernel)) rfl
theorem k_X7_150 : Cond.methodLink RX7 150 yX5_streetsOf ∈ Gw := Gw_in (List.mem_of_getElem? (i := 604) (by decide +kernel)) rfl
theorem k_X7_153 : Cond.methodLink RX7 153 yX2_cell ∈ Gw := Gw_in (List.mem_of_getElem? (i := 612) (by decide +kernel)) rfl
abbrev M_X7_of : MT := (yX7_of, cX7_of, 3, (some .int))
theorem m_X7_of : MV M_X7_of 2 := ⟨⟨Gw_in (List.mem_of_getElem? (i := 578) (by decide +kernel)) rfl, Gw_in (List.mem_of_getElem? (i := 75) (by decide +kernel)) rfl, by decide, by decide, by decide, by decide +kernel⟩, Gw_in (List.mem_of_getElem? (i := 576) (by decide +kernel)) rfl, Gw_in (List.mem_of_getElem? (i := 577) (by decide +kernel)) rfl⟩
theorem l_X7_214 : FLN RX7 214 RX5 TX5 8 0 := ⟨by decide, rfl, List.mem_filter.mpr ⟨List.mem_of_getElem? (i := 50) (by decide +kernel), rfl⟩⟩
abbrev M_X7_isStreet : MT := (yX7_isStreet, cX7_isStreet, 2, (some .boolean))
theorem m_X7_isStreet : MV M_X7_isStreet 1 := ⟨⟨Gw_in (List.mem_of_getElem? (i := 620) (by decide +kernel)) rfl, Gw_in (List.mem_of_getElem? (i := 75) (by decide +kernel)) rfl, by decide, by decide, by decide, by decide +kernel⟩, Gw_in (List.mem_of_getElem? (i := 619) (by decide +kernel)) rfl, Gw_in (List.mem_of_getElem? (i := 17) (by decide +kernel)) rfl⟩
theorem k_X7_157 : Cond.methodLink RX7 157 yX7_isStreet ∈ Gw := Gw_in (List.mem_of_getElem? (i := 617) (by decide +kernel)) rfl
theorem k_X7_161 : Cond.methodLink RX7 161 yX7_isHour ∈ Gw := Gw_in (List.mem_of_getElem? (i := 621) (by decide +kernel)) rfl
theorem l_X7_44 : FL RX7 44 RX7 TX7 14 6 := ⟨by decide, rfl, Gw_in (List.mem_of_getElem? (i := 278) (by decide +kernel)) rfl⟩
theorem k_X7_164 : Cond.methodLink RX7 164 yX1_write ∈ Gw := Gw_in (List.mem_of_getElem? (i := 624) (by decide +kernel)) rfl
theorem k_X7_167 : Cond.methodLink RX7 167 yX1_at ∈ Gw := Gw_in (List.mem_of_getElem? (i := 688) (by decide +kernel)) rfl
abbrev M_X7_name : MT := (yX7_name, cX7_name, 3, (some .int))
theorem m_X7_name : MV M_X7_name 2 := ⟨⟨Gw_in (List.mem_of_getElem? (i := 616) (by decide +kernel)) rfl, Gw_in (List.mem_of_getElem? (i := 75) (by decide +kernel)) rfl, by decide, by decide, by decide, by decide +kernel⟩, Gw_in (List.mem_of_getElem? (i := 614) (by decide +kernel)) rfl, Gw_in (List.mem_of_getElem? (i := 615) (by decide +kernel)) rfl⟩
theorem l_X7_35 : FL RX7 35 RX7 TX7 14 5 := ⟨by decide, rfl, Gw_in (List.mem_of_getElem? (i := 277) (by decide +kernel)) rfl⟩
theorem k_X7_170 : Cond.methodLink RX7 170 yX0_plan ∈ Gw := Gw_in (List.mem_of_getElem? (i := 698) (by decide +kernel)) rfl
theorem k_X7_173 : Cond.methodLink RX7 173 yX0_renamings ∈ Gw := Gw_in (List.mem_of_getElem? (i := 699) (by decide +kernel)) rfl
abbrev M_X7_changes : MT := (yX7_changes, cX7_changes, 2, (some .int))
theorem m_X7_changes : MV M_X7_changes 1 := ⟨⟨Gw_in (List.mem_of_getElem? (i := 697) (by decide +kernel)) rfl, Gw_in (List.mem_of_getElem? (i := 75) (by decide +kernel)) rfl, by decide, by decide, by decide, by decide +kernel⟩, Gw_in (List.mem_of_getElem? (i := 695) (by decide +kernel)) rfl, Gw_in (List.mem_of_getElem? (i := 696) (by decide +kernel)) rfl⟩
theorem k_X7_176 : Cond.methodLink RX7 176 yX1_having ∈ Gw := Gw_in (List.mem_of_getElem? (i := 711) (by decide +kernel)) rfl
abbrev M_X7_which : MT := (yX7_which, cX7_which, 6, (some .int))
theorem m_X7_which : MV M_X7_which 3 := ⟨⟨Gw_in (List.mem_of_getElem? (i := 710) (by decide +kernel)) rfl, Gw_in (List.mem_of_getElem? (i := 75) (by decide +kernel)) rfl, by decide, by decide, by decide, by decide +kernel⟩, Gw_in (List.mem_of_getElem? (i := 708) (by decide +kernel)) rfl, Gw_in (List.mem_of_getElem? (i := 709) (by decide +kernel)) rfl⟩
theorem k_X7_179 : Cond.methodLink RX7 179 yX1_firstHaving ∈ Gw := Gw_in (List.mem_of_getElem? (i := 720) (by decide +kernel)) rfl
abbrev M_X7_letter : MT := (yX7_letter, cX7_letter, 5, (some .int))
theorem m_X7_letter : MV M_X7_letter 3 := ⟨⟨Gw_in (List.mem_of_getElem? (i := 719) (by decide +kernel)) rfl, Gw_in (List.mem_of_getElem? (i := 75) (by decide +kernel)) rfl, by decide, by decide, by decide, by decide +kernel⟩, Gw_in (List.mem_of_getElem? (i := 717) (by decide +kernel)) rfl, Gw_in (List.mem_of_getElem? (i := 718) (by decide +kernel)) rfl⟩
theorem k_X7_182 : MMW RX7 182 Lib.Math.max.name Lib.Math.max.code := ⟨Gw_in (by decide +kernel) rfl, Gw_in (by decide +kernel) rfl, Gw_in (by decide +kernel) rfl, Gw_in (by decide +kernel) rfl⟩
abbrev M_X7_cab : MT := (yX7_cab, cX7_cab, 4, (some .int))
theorem m_X7_cab : MV M_X7_cab 3 := ⟨⟨Gw_in (List.mem_of_getElem? (i := 727) (by decide +kernel)) rfl, Gw_in (List.mem_of_getElem? (i := 75) (by decide +kernel)) rfl, by decide, by decide, by decide, by decide +kernel⟩, Gw_in (List.mem_of_getElem? (i := 725) (by decide +kernel)) rfl, Gw_in (List.mem_of_getElem? (i := 726) (by decide +kernel)) rfl⟩
abbrev M_X7_areStreets : MT := (yX7_areStreets, cX7_areStreets, 2, (some .boolean))
theorem m_X7_areStreets : MV M_X7_areStreets 1 := ⟨⟨Gw_in (List.mem_of_getElem? (i := 738) (by decide +kernel)) rfl, Gw_in (List.mem_of_getElem? (i := 75) (by decide +kernel)) rfl, by decide, by decide, by decide, by decide +kernel⟩, Gw_in (List.mem_of_getElem? (i := 737) (by decide +kernel)) rfl, Gw_in (List.mem_of_getElem? (i := 25) (by decide +kernel)) rfl⟩
theorem k_X7_187 : Cond.methodLink RX7 187 yX7_areStreets ∈ Gw := Gw_in (List.mem_of_getElem? (i := 735) (by decide +kernel)) rfl
theorem k_X7_190 : Cond.methodLink RX7 190 yX1_mostAlike ∈ Gw := Gw_in (List.mem_of_getElem? (i := 739) (by decide +kernel)) rfl
abbrev M_X7_find : MT := (yX7_find, cX7_find, 5, (some .int))
theorem m_X7_find : MV M_X7_find 2 := ⟨⟨Gw_in (List.mem_of_getElem? (i := 734) (by decide +kernel)) rfl, Gw_in (List.mem_of_getElem? (i := 75) (by decide +kernel)) rfl, by decide, by decide, by decide, by decide +kernel⟩, Gw_in (List.mem_of_getElem? (i := 732) (by decide +kernel)) rfl, Gw_in (List.mem_of_getElem? (i := 733) (by decide +kernel)) rfl⟩
theorem l_X7_51 : FL RX7 51 RX7 TX7 14 7 := ⟨by decide, rfl, Gw_in (List.mem_of_getElem? (i := 279) (by decide +kernel)) rfl⟩
theorem k_X7_193 : Cond.methodLink RX7 193 yX3_fewestStaged ∈ Gw := Gw_in (List.mem_of_getElem? (i := 756) (by decide +kernel)) rfl
theorem k_X7_197 : Cond.methodLink RX7 197 yX3_hourStaged ∈ Gw := Gw_in (List.mem_of_getElem? (i := 779) (by decide +kernel)) rfl
abbrev M_X7_stage : MT := (yX7_stage, cX7_stage, 6, (some .int))
theorem m_X7_stage : MV M_X7_stage 4 := ⟨⟨Gw_in (List.mem_of_getElem? (i := 755) (by decide +kernel)) rfl, Gw_in (List.mem_of_getElem? (i := 75) (by decide +kernel)) rfl, by decide, by decide, by decide, by decide +kernel⟩, Gw_in (List.mem_of_getElem? (i := 753) (by decide +kernel)) rfl, Gw_in (List.mem_of_getElem? (i := 754) (by decide +kernel)) rfl⟩
theorem k_X7_200 : Cond.methodLink RX7 200 yX3_fewestForbidden ∈ Gw := Gw_in (List.mem_of_getElem? (i := 787) (by decide +kernel)) rfl
abbrev M_X7_forbid : MT := (yX7_forbid, cX7_forbid, 2, (some .int))
theorem m_X7_forbid : MV M_X7_forbid 1 := ⟨⟨Gw_in (List.mem_of_getElem? (i := 786) (by decide +kernel)) rfl, Gw_in (List.mem_of_getElem? (i := 75) (by decide +kernel)) rfl, by decide, by decide, by decide, by decide +kernel⟩, Gw_in (List.mem_of_getElem? (i := 784) (by decide +kernel)) rfl, Gw_in (List.mem_of_getElem? (i := 785) (by decide +kernel)) rfl⟩
theorem k_X7_204 : Cond.methodLink RX7 204 yX0_rentOf ∈ Gw := Gw_in (List.mem_of_getElem? (i := 801) (by decide +kernel)) rfl
abbrev M_X7_rents : MT := (yX7_rents, cX7_rents, 2, (some .int))
theorem m_X7_rents : MV M_X7_rents 1 := ⟨⟨Gw_in (List.mem_of_getElem? (i := 800) (by decide +kernel)) rfl, Gw_in (List.mem_of_getElem? (i := 75) (by decide +kernel)) rfl, by decide, by decide, by decide, by decide +kernel⟩, Gw_in (List.mem_of_getElem? (i := 798) (by decide +kernel)) rfl, Gw_in (List.mem_of_getElem? (i := 799) (by decide +kernel)) rfl⟩
theorem k_X7_207 : Cond.methodLink RX7 207 yX3_weighPairs ∈ Gw := Gw_in (List.mem_of_getElem? (i := 813) (by decide +kernel)) rfl
theorem k_X7_211 : Cond.methodLink RX7 211 yX3_pairsThatRest ∈ Gw := Gw_in (List.mem_of_getElem? (i := 823) (by decide +kernel)) rfl
abbrev M_X7_landlords : MT := (yX7_landlords, cX7_landlords, 5, (some .int))
theorem m_X7_landlords : MV M_X7_landlords 4 := ⟨⟨Gw_in (List.mem_of_getElem? (i := 812) (by decide +kernel)) rfl, Gw_in (List.mem_of_getElem? (i := 75) (by decide +kernel)) rfl, by decide, by decide, by decide, by decide +kernel⟩, Gw_in (List.mem_of_getElem? (i := 810) (by decide +kernel)) rfl, Gw_in (List.mem_of_getElem? (i := 811) (by decide +kernel)) rfl⟩
theorem l_X7_58 : FL RX7 58 RX7 TX7 14 8 := ⟨by decide, rfl, Gw_in (List.mem_of_getElem? (i := 280) (by decide +kernel)) rfl⟩
theorem k_X7_217 : Cond.methodLink RX7 217 yX6_shortest ∈ Gw := Gw_in (List.mem_of_getElem? (i := 831) (by decide +kernel)) rfl
abbrev M_X7_round : MT := (yX7_round, cX7_round, 3, (some .int))
theorem m_X7_round : MV M_X7_round 2 := ⟨⟨Gw_in (List.mem_of_getElem? (i := 830) (by decide +kernel)) rfl, Gw_in (List.mem_of_getElem? (i := 75) (by decide +kernel)) rfl, by decide, by decide, by decide, by decide +kernel⟩, Gw_in (List.mem_of_getElem? (i := 828) (by decide +kernel)) rfl, Gw_in (List.mem_of_getElem? (i := 829) (by decide +kernel)) rfl⟩
theorem l_X7_221 : FLN RX7 221 RX5 TX5 8 2 := ⟨by decide, rfl, List.mem_filter.mpr ⟨List.mem_of_getElem? (i := 57) (by decide +kernel), rfl⟩⟩
theorem k_X7_224 : Cond.methodLink RX7 224 yX2_isFull ∈ Gw := Gw_in (List.mem_of_getElem? (i := 867) (by decide +kernel)) rfl
theorem k_X7_225 : Cond.methodLink RX7 225 yX2_add ∈ Gw := Gw_in (List.mem_of_getElem? (i := 868) (by decide +kernel)) rfl
abbrev M_X7_reading : MT := (yX7_reading, cX7_reading, 4, (some .int))
theorem m_X7_reading : MV M_X7_reading 3 := ⟨⟨Gw_in (List.mem_of_getElem? (i := 866) (by decide +kernel)) rfl, Gw_in (List.mem_of_getElem? (i := 75) (by decide +kernel)) rfl, by decide, by decide, by decide, by decide +kernel⟩, Gw_in (List.mem_of_getElem? (i := 864) (by decide +kernel)) rfl, Gw_in (List.mem_of_getElem? (i := 865) (by decide +kernel)) rfl⟩
theorem k_X7_228 : Cond.methodLink RX7 228 yX2_empty ∈ Gw := Gw_in (List.mem_of_getElem? (i := 873) (by decide +kernel)) rfl
abbrev M_X7_burn : MT := (yX7_burn, cX7_burn, 2, (some .int))
theorem m_X7_burn : MV M_X7_burn 0 := ⟨⟨Gw_in (List.mem_of_getElem? (i := 872) (by decide +kernel)) rfl, Gw_in (List.mem_of_getElem? (i := 75) (by decide +kernel)) rfl, by decide, by decide, by decide, by decide +kernel⟩, Gw_in (List.mem_of_getElem? (i := 870) (by decide +kernel)) rfl, Gw_in (List.mem_of_getElem? (i := 871) (by decide +kernel)) rfl⟩
theorem k_X7_229 : Cond.methodLink RX7 229 yX3_trueSets ∈ Gw := Gw_in (List.mem_of_getElem? (i := 878) (by decide +kernel)) rfl
theorem k_X7_232 : Cond.methodLink RX7 232 yX3_inAllTrueSets ∈ Gw := Gw_in (List.mem_of_getElem? (i := 887) (by decide +kernel)) rfl
abbrev M_X7_truly : MT := (yX7_truly, cX7_truly, 3, (some .int))
theorem m_X7_truly : MV M_X7_truly 1 := ⟨⟨Gw_in (List.mem_of_getElem? (i := 877) (by decide +kernel)) rfl, Gw_in (List.mem_of_getElem? (i := 75) (by decide +kernel)) rfl, by decide, by decide, by decide, by decide +kernel⟩, Gw_in (List.mem_of_getElem? (i := 875) (by decide +kernel)) rfl, Gw_in (List.mem_of_getElem? (i := 876) (by decide +kernel)) rfl⟩
theorem t_X7_235 : Cond.constant RX7 235 (nI 1000000) ∈ Gw := Gw_in (List.mem_of_getElem? (i := 895) (by decide +kernel)) rfl
theorem k_X7_236 : Cond.methodLink RX7 236 yX3_renamingsOfDays ∈ Gw := Gw_in (List.mem_of_getElem? (i := 896) (by decide +kernel)) rfl
abbrev M_X7_drawn : MT := (yX7_drawn, cX7_drawn, 4, (some .int))
theorem m_X7_drawn : MV M_X7_drawn 3 := ⟨⟨Gw_in (List.mem_of_getElem? (i := 894) (by decide +kernel)) rfl, Gw_in (List.mem_of_getElem? (i := 75) (by decide +kernel)) rfl, by decide, by decide, by decide, by decide +kernel⟩, Gw_in (List.mem_of_getElem? (i := 892) (by decide +kernel)) rfl, Gw_in (List.mem_of_getElem? (i := 893) (by decide +kernel)) rfl⟩
theorem l_X7_22 : FL RX7 22 RX7 TX7 14 3 := ⟨by decide, rfl, Gw_in (List.mem_of_getElem? (i := 275) (by decide +kernel)) rfl⟩
theorem l_X7_19 : FL RX7 19 RX7 TX7 14 2 := ⟨by decide, rfl, Gw_in (List.mem_of_getElem? (i := 274) (by decide +kernel)) rfl⟩
abbrev M_X7_imageOf : MT := (yX7_imageOf, cX7_imageOf, 2, (some (.object "LastHappened$Town")))
theorem m_X7_imageOf : MV M_X7_imageOf 1 := ⟨⟨Gw_in (List.mem_of_getElem? (i := 914) (by decide +kernel)) rfl, Gw_in (List.mem_of_getElem? (i := 75) (by decide +kernel)) rfl, by decide, by decide, by decide, by decide +kernel⟩, Gw_in (List.mem_of_getElem? (i := 913) (by decide +kernel)) rfl, Gw_in (List.mem_of_getElem? (i := 33) (by decide +kernel)) rfl⟩
theorem k_X7_240 : Cond.methodLink RX7 240 yX7_imageOf ∈ Gw := Gw_in (List.mem_of_getElem? (i := 911) (by decide +kernel)) rfl
theorem l_X7_66 : FL RX7 66 RX7 TX7 14 10 := ⟨by decide, rfl, Gw_in (List.mem_of_getElem? (i := 282) (by decide +kernel)) rfl⟩
theorem p_X7_10 : PF TX7 10 := ⟨rfl, by decide +kernel⟩
abbrev M_X7_image : MT := (yX7_image, cX7_image, 2, (some .int))
theorem m_X7_image : MV M_X7_image 1 := ⟨⟨Gw_in (List.mem_of_getElem? (i := 910) (by decide +kernel)) rfl, Gw_in (List.mem_of_getElem? (i := 75) (by decide +kernel)) rfl, by decide, by decide, by decide, by decide +kernel⟩, Gw_in (List.mem_of_getElem? (i := 908) (by decide +kernel)) rfl, Gw_in (List.mem_of_getElem? (i := 909) (by decide +kernel)) rfl⟩
theorem k_X7_244 : Cond.methodLink RX7 244 yX7_holds ∈ Gw := Gw_in (List.mem_of_getElem? (i := 919) (by decide +kernel)) rfl
abbrev M_X7_from : MT := (yX7_from, cX7_from, 2, (some .int))
theorem m_X7_from : MV M_X7_from 1 := ⟨⟨Gw_in (List.mem_of_getElem? (i := 918) (by decide +kernel)) rfl, Gw_in (List.mem_of_getElem? (i := 75) (by decide +kernel)) rfl, by decide, by decide, by decide, by decide +kernel⟩, Gw_in (List.mem_of_getElem? (i := 916) (by decide +kernel)) rfl, Gw_in (List.mem_of_getElem? (i := 917) (by decide +kernel)) rfl⟩
abbrev M_X7_status : MT := (yX7_status, cX7_status, 2, (some .int))
theorem m_X7_status : MV M_X7_status 1 := ⟨⟨Gw_in (List.mem_of_getElem? (i := 923) (by decide +kernel)) rfl, Gw_in (List.mem_of_getElem? (i := 75) (by decide +kernel)) rfl, by decide, by decide, by decide, by decide +kernel⟩, Gw_in (List.mem_of_getElem? (i := 921) (by decide +kernel)) rfl, Gw_in (List.mem_of_getElem? (i := 922) (by decide +kernel)) rfl⟩
theorem l_X7_272 : FLN RX7 272 RX5 TX5 8 7 := ⟨by decide, rfl, List.mem_filter.mpr ⟨List.mem_of_getElem? (i := 65) (by decide +kernel), rfl⟩⟩
abbrev M_X7_countOf : MT := (yX7_countOf, cX7_countOf, 2, (some .int))
theorem m_X7_countOf : MV M_X7_countOf 1 := ⟨⟨Gw_in (List.mem_of_getElem? (i := 931) (by decide +kernel)) rfl, Gw_in (List.mem_of_getElem? (i := 75) (by decide +kernel)) rfl, by decide, by decide, by decide, by decide +kernel⟩, Gw_in (List.mem_of_getElem? (i := 930) (by decide +kernel)) rfl, Gw_in (List.mem_of_getElem? (i := 34) (by decide +kernel)) rfl⟩
theorem k_X7_247 : Cond.methodLink RX7 247 yX7_countOf ∈ Gw := Gw_in (List.mem_of_getElem? (i := 928) (by decide +kernel)) rfl
abbrev M_X7_count : MT := (yX7_count, cX7_count, 2, (some .int))
theorem m_X7_count : MV M_X7_count 1 := ⟨⟨Gw_in (List.mem_of_getElem? (i := 927) (by decide +kernel)) rfl, Gw_in (List.mem_of_getElem? (i := 75) (by decide +kernel)) rfl, by decide, by decide, by decide, by decide +kernel⟩, Gw_in (List.mem_of_getElem? (i := 925) (by decide +kernel)) rfl, Gw_in (List.mem_of_getElem? (i := 926) (by decide +kernel)) rfl⟩
theorem t_X7_250 : Cond.constantLong RX7 250 (911 : Int64) ∈ Gw := Gw_in (List.mem_of_getElem? (i := 936) (by decide +kernel)) rfl
theorem k_X7_254 : Cond.methodLink RX7 254 yX5_mixInto ∈ Gw := Gw_in (List.mem_of_getElem? (i := 938) (by decide +kernel)) rfl
theorem t_X7_252 : Cond.constantLong RX7 252 (31 : Int64) ∈ Gw := Gw_in (List.mem_of_getElem? (i := 937) (by decide +kernel)) rfl
abbrev M_X7_digest : MT := (yX7_digest, cX7_digest, 4, (some .long))
theorem m_X7_digest : MV M_X7_digest 0 := ⟨⟨Gw_in (List.mem_of_getElem? (i := 935) (by decide +kernel)) rfl, Gw_in (List.mem_of_getElem? (i := 75) (by decide +kernel)) rfl, by decide, by decide, by decide, by decide +kernel⟩, Gw_in (List.mem_of_getElem? (i := 933) (by decide +kernel)) rfl, Gw_in (List.mem_of_getElem? (i := 934) (by decide +kernel)) rfl⟩
abbrev M_X8_in : MT := (yX8_in, cX8_in, 6, (some .boolean))
theorem m_X8_in : MS M_X8_in 3 := ⟨⟨Gw_in (List.mem_of_getElem? (i := 1050) (by decide +kernel)) rfl, Gw_in (List.mem_of_getElem? (i := 83) (by decide +kernel)) rfl, by decide, by decide, by decide, by decide +kernel⟩, Gw_in (List.mem_of_getElem? (i := 1049) (by decide +kernel)) rfl⟩
theorem l_X8_20 : FL RX8 20 RX8 TX8 29 3 := ⟨by decide, rfl, Gw_in (List.mem_of_getElem? (i := 957) (by decide +kernel)) rfl⟩
abbrev M_X8_bad : MT := (yX8_bad, cX8_bad, 2, (some .int))
theorem m_X8_bad : MV M_X8_bad 1 := ⟨⟨Gw_in (List.mem_of_getElem? (i := 1054) (by decide +kernel)) rfl, Gw_in (List.mem_of_getElem? (i := 83) (by decide +kernel)) rfl, by decide, by decide, by decide, by decide +kernel⟩, Gw_in (List.mem_of_getElem? (i := 1053) (by decide +kernel)) rfl, Gw_in (List.mem_of_getElem? (i := 35) (by decide +kernel)) rfl⟩
abbrev M_X8_no : MT := (yX8_no, cX8_no, 1, (some .int))
theorem m_X8_no : MV M_X8_no 0 := ⟨⟨Gw_in (List.mem_of_getElem? (i := 1122) (by decide +kernel)) rfl, Gw_in (List.mem_of_getElem? (i := 83) (by decide +kernel)) rfl, by decide, by decide, by decide, by decide +kernel⟩, Gw_in (List.mem_of_getElem? (i := 1121) (by decide +kernel)) rfl, Gw_in (List.mem_of_getElem? (i := 42) (by decide +kernel)) rfl⟩
abbrev M_X8_full : MT := (yX8_full, cX8_full, 1, (some .int))
theorem m_X8_full : MV M_X8_full 0 := ⟨⟨Gw_in (List.mem_of_getElem? (i := 1075) (by decide +kernel)) rfl, Gw_in (List.mem_of_getElem? (i := 83) (by decide +kernel)) rfl, by decide, by decide, by decide, by decide +kernel⟩, Gw_in (List.mem_of_getElem? (i := 1074) (by decide +kernel)) rfl, Gw_in (List.mem_of_getElem? (i := 37) (by decide +kernel)) rfl⟩
abbrev M_X8_bits : MT := (yX8_bits, cX8_bits, 3, (some .int))
theorem m_X8_bits : MS M_X8_bits 1 := ⟨⟨Gw_in (List.mem_of_getElem? (i := 1219) (by decide +kernel)) rfl, Gw_in (List.mem_of_getElem? (i := 83) (by decide +kernel)) rfl, by decide, by decide, by decide, by decide +kernel⟩, Gw_in (List.mem_of_getElem? (i := 1218) (by decide +kernel)) rfl⟩
abbrev M_X8_begin : MT := (yX8_begin, cX8_begin, 3, none)
theorem m_X8_begin : MS M_X8_begin 2 := ⟨⟨Gw_in (List.mem_of_getElem? (i := 1061) (by decide +kernel)) rfl, Gw_in (List.mem_of_getElem? (i := 83) (by decide +kernel)) rfl, by decide, by decide, by decide, by decide +kernel⟩, Gw_in (List.mem_of_getElem? (i := 1060) (by decide +kernel)) rfl⟩
theorem l_X8_7 : FL RX8 7 RX8 TX8 29 0 := ⟨by decide, rfl, Gw_in (List.mem_of_getElem? (i := 954) (by decide +kernel)) rfl⟩
abbrev M_X8_streets : MT := (yX8_streets, cX8_streets, 1, (some .int))
theorem m_X8_streets : MV M_X8_streets 0 := ⟨⟨Gw_in (List.mem_of_getElem? (i := 1058) (by decide +kernel)) rfl, Gw_in (List.mem_of_getElem? (i := 83) (by decide +kernel)) rfl, by decide, by decide, by decide, by decide +kernel⟩, Gw_in (List.mem_of_getElem? (i := 1057) (by decide +kernel)) rfl, Gw_in (List.mem_of_getElem? (i := 36) (by decide +kernel)) rfl⟩
abbrev M_X8_events : MT := (yX8_events, cX8_events, 1, (some .int))
theorem m_X8_events : MV M_X8_events 0 := ⟨⟨Gw_in (List.mem_of_getElem? (i := 1095) (by decide +kernel)) rfl, Gw_in (List.mem_of_getElem? (i := 83) (by decide +kernel)) rfl, by decide, by decide, by decide, by decide +kernel⟩, Gw_in (List.mem_of_getElem? (i := 1094) (by decide +kernel)) rfl, Gw_in (List.mem_of_getElem? (i := 39) (by decide +kernel)) rfl⟩
theorem k_X8_71 : Cond.methodLink RX8 71 yX8_streets ∈ Gw := Gw_in (List.mem_of_getElem? (i := 1055) (by decide +kernel)) rfl
theorem k_X8_75 : Cond.methodLink RX8 75 yX8_in ∈ Gw := Gw_in (List.mem_of_getElem? (i := 1048) (by decide +kernel)) rfl
abbrev M_X8_isStreet : MT := (yX8_isStreet, cX8_isStreet, 2, (some .boolean))
theorem m_X8_isStreet : MV M_X8_isStreet 1 := ⟨⟨Gw_in (List.mem_of_getElem? (i := 1087) (by decide +kernel)) rfl, Gw_in (List.mem_of_getElem? (i := 83) (by decide +kernel)) rfl, by decide, by decide, by decide, by decide +kernel⟩, Gw_in (List.mem_of_getElem? (i := 1086) (by decide +kernel)) rfl, Gw_in (List.mem_of_getElem? (i := 38) (by decide +kernel)) rfl⟩
theorem k_X8_79 : Cond.methodLink RX8 79 yX8_events ∈ Gw := Gw_in (List.mem_of_getElem? (i := 1092) (by decide +kernel)) rfl
abbrev M_X8_isEvent : MT := (yX8_isEvent, cX8_isEvent, 2, (some .boolean))
theorem m_X8_isEvent : MV M_X8_isEvent 1 := ⟨⟨Gw_in (List.mem_of_getElem? (i := 1110) (by decide +kernel)) rfl, Gw_in (List.mem_of_getElem? (i := 83) (by decide +kernel)) rfl, by decide, by decide, by decide, by decide +kernel⟩, Gw_in (List.mem_of_getElem? (i := 1109) (by decide +kernel)) rfl, Gw_in (List.mem_of_getElem? (i := 41) (by decide +kernel)) rfl⟩
theorem t_X8_82 : Cond.constantLong RX8 82 (23 : Int64) ∈ Gw := Gw_in (List.mem_of_getElem? (i := 1091) (by decide +kernel)) rfl
abbrev M_X8_isHour : MT := (yX8_isHour, cX8_isHour, 1, (some .boolean))
theorem m_X8_isHour : MS M_X8_isHour 1 := ⟨⟨Gw_in (List.mem_of_getElem? (i := 1090) (by decide +kernel)) rfl, Gw_in (List.mem_of_getElem? (i := 83) (by decide +kernel)) rfl, by decide, by decide, by decide, by decide +kernel⟩, Gw_in (List.mem_of_getElem? (i := 1089) (by decide +kernel)) rfl⟩
theorem t_X8_84 : Cond.constantLong RX8 84 (15 : Int64) ∈ Gw := Gw_in (List.mem_of_getElem? (i := 1071) (by decide +kernel)) rfl
abbrev M_X8_isWord : MT := (yX8_isWord, cX8_isWord, 1, (some .boolean))
theorem m_X8_isWord : MS M_X8_isWord 1 := ⟨⟨Gw_in (List.mem_of_getElem? (i := 1070) (by decide +kernel)) rfl, Gw_in (List.mem_of_getElem? (i := 83) (by decide +kernel)) rfl, by decide, by decide, by decide, by decide +kernel⟩, Gw_in (List.mem_of_getElem? (i := 1069) (by decide +kernel)) rfl⟩
abbrev M_X8_areStreets : MT := (yX8_areStreets, cX8_areStreets, 2, (some .boolean))
theorem m_X8_areStreets : MV M_X8_areStreets 1 := ⟨⟨Gw_in (List.mem_of_getElem? (i := 1215) (by decide +kernel)) rfl, Gw_in (List.mem_of_getElem? (i := 83) (by decide +kernel)) rfl, by decide, by decide, by decide, by decide +kernel⟩, Gw_in (List.mem_of_getElem? (i := 1214) (by decide +kernel)) rfl, Gw_in (List.mem_of_getElem? (i := 54) (by decide +kernel)) rfl⟩
abbrev M_X8_has : MT := (yX8_has, cX8_has, 3, (some .int))
theorem m_X8_has : MV M_X8_has 2 := ⟨⟨Gw_in (List.mem_of_getElem? (i := 1156) (by decide +kernel)) rfl, Gw_in (List.mem_of_getElem? (i := 83) (by decide +kernel)) rfl, by decide, by decide, by decide, by decide +kernel⟩, Gw_in (List.mem_of_getElem? (i := 1155) (by decide +kernel)) rfl, Gw_in (List.mem_of_getElem? (i := 46) (by decide +kernel)) rfl⟩
abbrev M_X8_told : MT := (yX8_told, cX8_told, 3, (some .int))
theorem m_X8_told : MV M_X8_told 2 := ⟨⟨Gw_in (List.mem_of_getElem? (i := 1135) (by decide +kernel)) rfl, Gw_in (List.mem_of_getElem? (i := 83) (by decide +kernel)) rfl, by decide, by decide, by decide, by decide +kernel⟩, Gw_in (List.mem_of_getElem? (i := 1134) (by decide +kernel)) rfl, Gw_in (List.mem_of_getElem? (i := 43) (by decide +kernel)) rfl⟩
theorem t_X8_86 : Cond.constantLong RX8 86 (2 : Int64) ∈ Gw := Gw_in (List.mem_of_getElem? (i := 1047) (by decide +kernel)) rfl
theorem k_X8_92 : Cond.methodLink RX8 92 yX8_begin ∈ Gw := Gw_in (List.mem_of_getElem? (i := 1059) (by decide +kernel)) rfl
theorem k_X8_88 : Cond.methodLink RX8 88 yX8_bad ∈ Gw := Gw_in (List.mem_of_getElem? (i := 1051) (by decide +kernel)) rfl
abbrev M_X8_town : MT := (yX8_town, cX8_town, 3, (some .int))
theorem m_X8_town : MV M_X8_town 1 := ⟨⟨Gw_in (List.mem_of_getElem? (i := 1046) (by decide +kernel)) rfl, Gw_in (List.mem_of_getElem? (i := 83) (by decide +kernel)) rfl, by decide, by decide, by decide, by decide +kernel⟩, Gw_in (List.mem_of_getElem? (i := 1044) (by decide +kernel)) rfl, Gw_in (List.mem_of_getElem? (i := 1045) (by decide +kernel)) rfl⟩
abbrev M_X8_layStreet : MT := (yX8_layStreet, cX8_layStreet, 6, none)
theorem m_X8_layStreet : MS M_X8_layStreet 5 := ⟨⟨Gw_in (List.mem_of_getElem? (i := 1078) (by decide +kernel)) rfl, Gw_in (List.mem_of_getElem? (i := 83) (by decide +kernel)) rfl, by decide, by decide, by decide, by decide +kernel⟩, Gw_in (List.mem_of_getElem? (i := 1077) (by decide +kernel)) rfl⟩
theorem t_X8_96 : Cond.constantLong RX8 96 (7 : Int64) ∈ Gw := Gw_in (List.mem_of_getElem? (i := 1066) (by decide +kernel)) rfl
theorem t_X8_98 : Cond.constantLong RX8 98 (9 : Int64) ∈ Gw := Gw_in (List.mem_of_getElem? (i := 1067) (by decide +kernel)) rfl
theorem k_X8_100 : Cond.methodLink RX8 100 yX8_isWord ∈ Gw := Gw_in (List.mem_of_getElem? (i := 1068) (by decide +kernel)) rfl
theorem k_X8_107 : Cond.methodLink RX8 107 yX8_layStreet ∈ Gw := Gw_in (List.mem_of_getElem? (i := 1076) (by decide +kernel)) rfl
theorem k_X8_104 : Cond.methodLink RX8 104 yX8_full ∈ Gw := Gw_in (List.mem_of_getElem? (i := 1072) (by decide +kernel)) rfl
abbrev M_X8_street : MT := (yX8_street, cX8_street, 5, (some .int))
theorem m_X8_street : MV M_X8_street 4 := ⟨⟨Gw_in (List.mem_of_getElem? (i := 1065) (by decide +kernel)) rfl, Gw_in (List.mem_of_getElem? (i := 83) (by decide +kernel)) rfl, by decide, by decide, by decide, by decide +kernel⟩, Gw_in (List.mem_of_getElem? (i := 1063) (by decide +kernel)) rfl, Gw_in (List.mem_of_getElem? (i := 1064) (by decide +kernel)) rfl⟩
abbrev M_X8_layEvent : MT := (yX8_layEvent, cX8_layEvent, 8, none)
theorem m_X8_layEvent : MS M_X8_layEvent 7 := ⟨⟨Gw_in (List.mem_of_getElem? (i := 1102) (by decide +kernel)) rfl, Gw_in (List.mem_of_getElem? (i := 83) (by decide +kernel)) rfl, by decide, by decide, by decide, by decide +kernel⟩, Gw_in (List.mem_of_getElem? (i := 1101) (by decide +kernel)) rfl⟩
abbrev M_X8_keep : MT := (yX8_keep, cX8_keep, 3, none)
theorem m_X8_keep : MV M_X8_keep 0 := ⟨⟨Gw_in (List.mem_of_getElem? (i := 1099) (by decide +kernel)) rfl, Gw_in (List.mem_of_getElem? (i := 83) (by decide +kernel)) rfl, by decide, by decide, by decide, by decide +kernel⟩, Gw_in (List.mem_of_getElem? (i := 1098) (by decide +kernel)) rfl, Gw_in (List.mem_of_getElem? (i := 40) (by decide +kernel)) rfl⟩
theorem t_X8_111 : Cond.constantLong RX8 111 (5 : Int64) ∈ Gw := Gw_in (List.mem_of_getElem? (i := 1083) (by decide +kernel)) rfl
theorem k_X8_119 : Cond.methodLink RX8 119 yX8_keep ∈ Gw := Gw_in (List.mem_of_getElem? (i := 1096) (by decide +kernel)) rfl
theorem k_X8_122 : Cond.methodLink RX8 122 yX8_layEvent ∈ Gw := Gw_in (List.mem_of_getElem? (i := 1100) (by decide +kernel)) rfl
theorem k_X8_113 : Cond.methodLink RX8 113 yX8_isStreet ∈ Gw := Gw_in (List.mem_of_getElem? (i := 1084) (by decide +kernel)) rfl
theorem k_X8_116 : Cond.methodLink RX8 116 yX8_isHour ∈ Gw := Gw_in (List.mem_of_getElem? (i := 1088) (by decide +kernel)) rfl
abbrev M_X8_event : MT := (yX8_event, cX8_event, 8, (some .int))
theorem m_X8_event : MV M_X8_event 6 := ⟨⟨Gw_in (List.mem_of_getElem? (i := 1082) (by decide +kernel)) rfl, Gw_in (List.mem_of_getElem? (i := 83) (by decide +kernel)) rfl, by decide, by decide, by decide, by decide +kernel⟩, Gw_in (List.mem_of_getElem? (i := 1080) (by decide +kernel)) rfl, Gw_in (List.mem_of_getElem? (i := 1081) (by decide +kernel)) rfl⟩
theorem k_X8_126 : Cond.methodLink RX8 126 yX8_isEvent ∈ Gw := Gw_in (List.mem_of_getElem? (i := 1107) (by decide +kernel)) rfl
abbrev M_X8_back : MT := (yX8_back, cX8_back, 3, (some .int))
theorem m_X8_back : MV M_X8_back 1 := ⟨⟨Gw_in (List.mem_of_getElem? (i := 1106) (by decide +kernel)) rfl, Gw_in (List.mem_of_getElem? (i := 83) (by decide +kernel)) rfl, by decide, by decide, by decide, by decide +kernel⟩, Gw_in (List.mem_of_getElem? (i := 1104) (by decide +kernel)) rfl, Gw_in (List.mem_of_getElem? (i := 1105) (by decide +kernel)) rfl⟩
abbrev M_X8_law : MT := (yX8_law, cX8_law, 3, (some .int))
theorem m_X8_law : MV M_X8_law 1 := ⟨⟨Gw_in (List.mem_of_getElem? (i := 1114) (by decide +kernel)) rfl, Gw_in (List.mem_of_getElem? (i := 83) (by decide +kernel)) rfl, by decide, by decide, by decide, by decide +kernel⟩, Gw_in (List.mem_of_getElem? (i := 1112) (by decide +kernel)) rfl, Gw_in (List.mem_of_getElem? (i := 1113) (by decide +kernel)) rfl⟩
theorem k_X8_129 : Cond.methodLink RX8 129 yX8_no ∈ Gw := Gw_in (List.mem_of_getElem? (i := 1119) (by decide +kernel)) rfl
abbrev M_X8_undo : MT := (yX8_undo, cX8_undo, 3, (some .int))
theorem m_X8_undo : MV M_X8_undo 0 := ⟨⟨Gw_in (List.mem_of_getElem? (i := 1118) (by decide +kernel)) rfl, Gw_in (List.mem_of_getElem? (i := 83) (by decide +kernel)) rfl, by decide, by decide, by decide, by decide +kernel⟩, Gw_in (List.mem_of_getElem? (i := 1116) (by decide +kernel)) rfl, Gw_in (List.mem_of_getElem? (i := 1117) (by decide +kernel)) rfl⟩
theorem t_X8_132 : Cond.constantLong RX8 132 (99 : Int64) ∈ Gw := Gw_in (List.mem_of_getElem? (i := 1127) (by decide +kernel)) rfl
abbrev M_X8_rent : MT := (yX8_rent, cX8_rent, 4, (some .int))
theorem m_X8_rent : MV M_X8_rent 2 := ⟨⟨Gw_in (List.mem_of_getElem? (i := 1126) (by decide +kernel)) rfl, Gw_in (List.mem_of_getElem? (i := 83) (by decide +kernel)) rfl, by decide, by decide, by decide, by decide +kernel⟩, Gw_in (List.mem_of_getElem? (i := 1124) (by decide +kernel)) rfl, Gw_in (List.mem_of_getElem? (i := 1125) (by decide +kernel)) rfl⟩
abbrev M_X8_mustSee : MT := (yX8_mustSee, cX8_mustSee, 1, (some .int))
theorem m_X8_mustSee : MS M_X8_mustSee 1 := ⟨⟨Gw_in (List.mem_of_getElem? (i := 1138) (by decide +kernel)) rfl, Gw_in (List.mem_of_getElem? (i := 83) (by decide +kernel)) rfl, by decide, by decide, by decide, by decide +kernel⟩, Gw_in (List.mem_of_getElem? (i := 1137) (by decide +kernel)) rfl⟩
abbrev M_X8_rankOf : MT := (yX8_rankOf, cX8_rankOf, 2, (some .int))
theorem m_X8_rankOf : MS M_X8_rankOf 2 := ⟨⟨Gw_in (List.mem_of_getElem? (i := 1141) (by decide +kernel)) rfl, Gw_in (List.mem_of_getElem? (i := 83) (by decide +kernel)) rfl, by decide, by decide, by decide, by decide +kernel⟩, Gw_in (List.mem_of_getElem? (i := 1140) (by decide +kernel)) rfl⟩
abbrev M_X8_standsFor : MT := (yX8_standsFor, cX8_standsFor, 1, (some .int))
theorem m_X8_standsFor : MS M_X8_standsFor 1 := ⟨⟨Gw_in (List.mem_of_getElem? (i := 1144) (by decide +kernel)) rfl, Gw_in (List.mem_of_getElem? (i := 83) (by decide +kernel)) rfl, by decide, by decide, by decide, by decide +kernel⟩, Gw_in (List.mem_of_getElem? (i := 1143) (by decide +kernel)) rfl⟩
theorem k_X8_134 : Cond.methodLink RX8 134 yX8_has ∈ Gw := Gw_in (List.mem_of_getElem? (i := 1153) (by decide +kernel)) rfl
abbrev M_X8_meet : MT := (yX8_meet, cX8_meet, 3, (some .boolean))
theorem m_X8_meet : MV M_X8_meet 2 := ⟨⟨Gw_in (List.mem_of_getElem? (i := 1152) (by decide +kernel)) rfl, Gw_in (List.mem_of_getElem? (i := 83) (by decide +kernel)) rfl, by decide, by decide, by decide, by decide +kernel⟩, Gw_in (List.mem_of_getElem? (i := 1151) (by decide +kernel)) rfl, Gw_in (List.mem_of_getElem? (i := 45) (by decide +kernel)) rfl⟩
theorem k_X8_138 : Cond.methodLink RX8 138 yX8_meet ∈ Gw := Gw_in (List.mem_of_getElem? (i := 1149) (by decide +kernel)) rfl
abbrev M_X8_happensIn : MT := (yX8_happensIn, cX8_happensIn, 5, (some .int))
theorem m_X8_happensIn : MV M_X8_happensIn 2 := ⟨⟨Gw_in (List.mem_of_getElem? (i := 1148) (by decide +kernel)) rfl, Gw_in (List.mem_of_getElem? (i := 83) (by decide +kernel)) rfl, by decide, by decide, by decide, by decide +kernel⟩, Gw_in (List.mem_of_getElem? (i := 1147) (by decide +kernel)) rfl, Gw_in (List.mem_of_getElem? (i := 44) (by decide +kernel)) rfl⟩
theorem k_X8_142 : Cond.methodLink RX8 142 yX8_told ∈ Gw := Gw_in (List.mem_of_getElem? (i := 1132) (by decide +kernel)) rfl
theorem k_X8_145 : Cond.methodLink RX8 145 yX8_mustSee ∈ Gw := Gw_in (List.mem_of_getElem? (i := 1136) (by decide +kernel)) rfl
theorem k_X8_148 : Cond.methodLink RX8 148 yX8_rankOf ∈ Gw := Gw_in (List.mem_of_getElem? (i := 1139) (by decide +kernel)) rfl
theorem k_X8_151 : Cond.methodLink RX8 151 yX8_standsFor ∈ Gw := Gw_in (List.mem_of_getElem? (i := 1142) (by decide +kernel)) rfl
theorem k_X8_154 : Cond.methodLink RX8 154 yX8_happensIn ∈ Gw := Gw_in (List.mem_of_getElem? (i := 1145) (by decide +kernel)) rfl
abbrev M_X8_of : MT := (yX8_of, cX8_of, 4, (some .int))
theorem m_X8_of : MV M_X8_of 2 := ⟨⟨Gw_in (List.mem_of_getElem? (i := 1131) (by decide +kernel)) rfl, Gw_in (List.mem_of_getElem? (i := 83) (by decide +kernel)) rfl, by decide, by decide, by decide, by decide +kernel⟩, Gw_in (List.mem_of_getElem? (i := 1129) (by decide +kernel)) rfl, Gw_in (List.mem_of_getElem? (i := 1130) (by decide +kernel)) rfl⟩
theorem l_X8_38 : FL RX8 38 RX8 TX8 29 9 := ⟨by decide, rfl, Gw_in (List.mem_of_getElem? (i := 963) (by decide +kernel)) rfl⟩
theorem l_X8_29 : FL RX8 29 RX8 TX8 29 6 := ⟨by decide, rfl, Gw_in (List.mem_of_getElem? (i := 960) (by decide +kernel)) rfl⟩
theorem l_X8_32 : FL RX8 32 RX8 TX8 29 7 := ⟨by decide, rfl, Gw_in (List.mem_of_getElem? (i := 961) (by decide +kernel)) rfl⟩
theorem l_X8_35 : FL RX8 35 RX8 TX8 29 8 := ⟨by decide, rfl, Gw_in (List.mem_of_getElem? (i := 962) (by decide +kernel)) rfl⟩
theorem l_X8_41 : FL RX8 41 RX8 TX8 29 10 := ⟨by decide, rfl, Gw_in (List.mem_of_getElem? (i := 964) (by decide +kernel)) rfl⟩
abbrev M_X8_rename : MT := (yX8_rename, cX8_rename, 10, none)
theorem m_X8_rename : MV M_X8_rename 5 := ⟨⟨Gw_in (List.mem_of_getElem? (i := 1180) (by decide +kernel)) rfl, Gw_in (List.mem_of_getElem? (i := 83) (by decide +kernel)) rfl, by decide, by decide, by decide, by decide +kernel⟩, Gw_in (List.mem_of_getElem? (i := 1179) (by decide +kernel)) rfl, Gw_in (List.mem_of_getElem? (i := 51) (by decide +kernel)) rfl⟩
theorem k_X8_157 : Cond.methodLink RX8 157 yX8_rename ∈ Gw := Gw_in (List.mem_of_getElem? (i := 1177) (by decide +kernel)) rfl
abbrev M_X8_happen : MT := (yX8_happen, cX8_happen, 9, none)
theorem m_X8_happen : MV M_X8_happen 6 := ⟨⟨Gw_in (List.mem_of_getElem? (i := 1176) (by decide +kernel)) rfl, Gw_in (List.mem_of_getElem? (i := 83) (by decide +kernel)) rfl, by decide, by decide, by decide, by decide +kernel⟩, Gw_in (List.mem_of_getElem? (i := 1175) (by decide +kernel)) rfl, Gw_in (List.mem_of_getElem? (i := 50) (by decide +kernel)) rfl⟩
theorem l_X8_23 : FL RX8 23 RX8 TX8 29 4 := ⟨by decide, rfl, Gw_in (List.mem_of_getElem? (i := 958) (by decide +kernel)) rfl⟩
theorem l_X8_26 : FL RX8 26 RX8 TX8 29 5 := ⟨by decide, rfl, Gw_in (List.mem_of_getElem? (i := 959) (by decide +kernel)) rfl⟩
theorem l_X8_165 : FL RX8 165 RX8 TX8 29 11 := ⟨by decide, rfl, Gw_in (List.mem_of_getElem? (i := 965) (by decide +kernel)) rfl⟩
theorem l_X8_47 : FL RX8 47 RX8 TX8 29 13 := ⟨by decide, rfl, Gw_in (List.mem_of_getElem? (i := 967) (by decide +kernel)) rfl⟩
theorem l_X8_44 : FL RX8 44 RX8 TX8 29 12 := ⟨by decide, rfl, Gw_in (List.mem_of_getElem? (i := 966) (by decide +kernel)) rfl⟩
theorem l_X8_50 : FL RX8 50 RX8 TX8 29 14 := ⟨by decide, rfl, Gw_in (List.mem_of_getElem? (i := 968) (by decide +kernel)) rfl⟩
theorem k_X8_161 : Cond.methodLink RX8 161 yX8_happen ∈ Gw := Gw_in (List.mem_of_getElem? (i := 1173) (by decide +kernel)) rfl
abbrev M_X8_run : MT := (yX8_run, cX8_run, 4, none)
theorem m_X8_run : MV M_X8_run 1 := ⟨⟨Gw_in (List.mem_of_getElem? (i := 1172) (by decide +kernel)) rfl, Gw_in (List.mem_of_getElem? (i := 83) (by decide +kernel)) rfl, by decide, by decide, by decide, by decide +kernel⟩, Gw_in (List.mem_of_getElem? (i := 1171) (by decide +kernel)) rfl, Gw_in (List.mem_of_getElem? (i := 49) (by decide +kernel)) rfl⟩
abbrev M_X8_allEvents : MT := (yX8_allEvents, cX8_allEvents, 1, (some .int))
theorem m_X8_allEvents : MV M_X8_allEvents 0 := ⟨⟨Gw_in (List.mem_of_getElem? (i := 1168) (by decide +kernel)) rfl, Gw_in (List.mem_of_getElem? (i := 83) (by decide +kernel)) rfl, by decide, by decide, by decide, by decide +kernel⟩, Gw_in (List.mem_of_getElem? (i := 1167) (by decide +kernel)) rfl, Gw_in (List.mem_of_getElem? (i := 48) (by decide +kernel)) rfl⟩
theorem p_X8_11 : PF TX8 11 := ⟨rfl, by decide +kernel⟩
theorem k_X8_169 : Cond.methodLink RX8 169 yX8_allEvents ∈ Gw := Gw_in (List.mem_of_getElem? (i := 1165) (by decide +kernel)) rfl
theorem k_X8_172 : Cond.methodLink RX8 172 yX8_run ∈ Gw := Gw_in (List.mem_of_getElem? (i := 1169) (by decide +kernel)) rfl
abbrev M_X8_runAll : MT := (yX8_runAll, cX8_runAll, 1, none)
theorem m_X8_runAll : MV M_X8_runAll 0 := ⟨⟨Gw_in (List.mem_of_getElem? (i := 1164) (by decide +kernel)) rfl, Gw_in (List.mem_of_getElem? (i := 83) (by decide +kernel)) rfl, by decide, by decide, by decide, by decide +kernel⟩, Gw_in (List.mem_of_getElem? (i := 1163) (by decide +kernel)) rfl, Gw_in (List.mem_of_getElem? (i := 47) (by decide +kernel)) rfl⟩
abbrev M_X8_nameIn : MT := (yX8_nameIn, cX8_nameIn, 3, (some .int))
theorem m_X8_nameIn : MV M_X8_nameIn 2 := ⟨⟨Gw_in (List.mem_of_getElem? (i := 1184) (by decide +kernel)) rfl, Gw_in (List.mem_of_getElem? (i := 83) (by decide +kernel)) rfl, by decide, by decide, by decide, by decide +kernel⟩, Gw_in (List.mem_of_getElem? (i := 1183) (by decide +kernel)) rfl, Gw_in (List.mem_of_getElem? (i := 52) (by decide +kernel)) rfl⟩
theorem k_X8_176 : Cond.methodLink RX8 176 yX8_runAll ∈ Gw := Gw_in (List.mem_of_getElem? (i := 1161) (by decide +kernel)) rfl
theorem k_X8_179 : Cond.methodLink RX8 179 yX8_nameIn ∈ Gw := Gw_in (List.mem_of_getElem? (i := 1181) (by decide +kernel)) rfl
abbrev M_X8_name : MT := (yX8_name, cX8_name, 3, (some .int))
theorem m_X8_name : MV M_X8_name 2 := ⟨⟨Gw_in (List.mem_of_getElem? (i := 1160) (by decide +kernel)) rfl, Gw_in (List.mem_of_getElem? (i := 83) (by decide +kernel)) rfl, by decide, by decide, by decide, by decide +kernel⟩, Gw_in (List.mem_of_getElem? (i := 1158) (by decide +kernel)) rfl, Gw_in (List.mem_of_getElem? (i := 1159) (by decide +kernel)) rfl⟩
abbrev M_X8_changes : MT := (yX8_changes, cX8_changes, 2, (some .int))
theorem m_X8_changes : MV M_X8_changes 1 := ⟨⟨Gw_in (List.mem_of_getElem? (i := 1188) (by decide +kernel)) rfl, Gw_in (List.mem_of_getElem? (i := 83) (by decide +kernel)) rfl, by decide, by decide, by decide, by decide +kernel⟩, Gw_in (List.mem_of_getElem? (i := 1186) (by decide +kernel)) rfl, Gw_in (List.mem_of_getElem? (i := 1187) (by decide +kernel)) rfl⟩
abbrev M_X8_whichIn : MT := (yX8_whichIn, cX8_whichIn, 5, (some .int))
theorem m_X8_whichIn : MV M_X8_whichIn 2 := ⟨⟨Gw_in (List.mem_of_getElem? (i := 1196) (by decide +kernel)) rfl, Gw_in (List.mem_of_getElem? (i := 83) (by decide +kernel)) rfl, by decide, by decide, by decide, by decide +kernel⟩, Gw_in (List.mem_of_getElem? (i := 1195) (by decide +kernel)) rfl, Gw_in (List.mem_of_getElem? (i := 53) (by decide +kernel)) rfl⟩
theorem k_X8_182 : Cond.methodLink RX8 182 yX8_whichIn ∈ Gw := Gw_in (List.mem_of_getElem? (i := 1193) (by decide +kernel)) rfl
abbrev M_X8_which : MT := (yX8_which, cX8_which, 6, (some .int))
theorem m_X8_which : MV M_X8_which 3 := ⟨⟨Gw_in (List.mem_of_getElem? (i := 1192) (by decide +kernel)) rfl, Gw_in (List.mem_of_getElem? (i := 83) (by decide +kernel)) rfl, by decide, by decide, by decide, by decide +kernel⟩, Gw_in (List.mem_of_getElem? (i := 1190) (by decide +kernel)) rfl, Gw_in (List.mem_of_getElem? (i := 1191) (by decide +kernel)) rfl⟩
abbrev M_X8_first : MT := (yX8_first, cX8_first, 2, (some .int))
theorem m_X8_first : MS M_X8_first 1 := ⟨⟨Gw_in (List.mem_of_getElem? (i := 1203) (by decide +kernel)) rfl, Gw_in (List.mem_of_getElem? (i := 83) (by decide +kernel)) rfl, by decide, by decide, by decide, by decide +kernel⟩, Gw_in (List.mem_of_getElem? (i := 1202) (by decide +kernel)) rfl⟩
theorem k_X8_185 : Cond.methodLink RX8 185 yX8_first ∈ Gw := Gw_in (List.mem_of_getElem? (i := 1201) (by decide +kernel)) rfl
abbrev M_X8_letter : MT := (yX8_letter, cX8_letter, 5, (some .int))
theorem m_X8_letter : MV M_X8_letter 3 := ⟨⟨Gw_in (List.mem_of_getElem? (i := 1200) (by decide +kernel)) rfl, Gw_in (List.mem_of_getElem? (i := 83) (by decide +kernel)) rfl, by decide, by decide, by decide, by decide +kernel⟩, Gw_in (List.mem_of_getElem? (i := 1198) (by decide +kernel)) rfl, Gw_in (List.mem_of_getElem? (i := 1199) (by decide +kernel)) rfl⟩
abbrev M_X8_cab : MT := (yX8_cab, cX8_cab, 4, (some .int))
theorem m_X8_cab : MV M_X8_cab 3 := ⟨⟨Gw_in (List.mem_of_getElem? (i := 1207) (by decide +kernel)) rfl, Gw_in (List.mem_of_getElem? (i := 83) (by decide +kernel)) rfl, by decide, by decide, by decide, by decide +kernel⟩, Gw_in (List.mem_of_getElem? (i := 1205) (by decide +kernel)) rfl, Gw_in (List.mem_of_getElem? (i := 1206) (by decide +kernel)) rfl⟩
theorem k_X8_188 : Cond.methodLink RX8 188 yX8_areStreets ∈ Gw := Gw_in (List.mem_of_getElem? (i := 1212) (by decide +kernel)) rfl
theorem t_X8_191 : Cond.constant RX8 191 (nI 1000000) ∈ Gw := Gw_in (List.mem_of_getElem? (i := 1216) (by decide +kernel)) rfl
theorem k_X8_192 : Cond.methodLink RX8 192 yX8_bits ∈ Gw := Gw_in (List.mem_of_getElem? (i := 1217) (by decide +kernel)) rfl
abbrev M_X8_find : MT := (yX8_find, cX8_find, 9, (some .int))
theorem m_X8_find : MV M_X8_find 2 := ⟨⟨Gw_in (List.mem_of_getElem? (i := 1211) (by decide +kernel)) rfl, Gw_in (List.mem_of_getElem? (i := 83) (by decide +kernel)) rfl, by decide, by decide, by decide, by decide +kernel⟩, Gw_in (List.mem_of_getElem? (i := 1209) (by decide +kernel)) rfl, Gw_in (List.mem_of_getElem? (i := 1210) (by decide +kernel)) rfl⟩
abbrev M_X8_stageOne : MT := (yX8_stageOne, cX8_stageOne, 5, none)
theorem m_X8_stageOne : MV M_X8_stageOne 4 := ⟨⟨Gw_in (List.mem_of_getElem? (i := 1235) (by decide +kernel)) rfl, Gw_in (List.mem_of_getElem? (i := 83) (by decide +kernel)) rfl, by decide, by decide, by decide, by decide +kernel⟩, Gw_in (List.mem_of_getElem? (i := 1234) (by decide +kernel)) rfl, Gw_in (List.mem_of_getElem? (i := 57) (by decide +kernel)) rfl⟩
theorem k_X8_195 : Cond.methodLink RX8 195 yX8_stageOne ∈ Gw := Gw_in (List.mem_of_getElem? (i := 1232) (by decide +kernel)) rfl
theorem l_X8_199 : FL RX8 199 RX8 TX8 29 15 := ⟨by decide, rfl, Gw_in (List.mem_of_getElem? (i := 969) (by decide +kernel)) rfl⟩
theorem p_X8_15 : PF TX8 15 := ⟨rfl, by decide +kernel⟩
theorem l_X8_202 : FL RX8 202 RX8 TX8 29 16 := ⟨by decide, rfl, Gw_in (List.mem_of_getElem? (i := 970) (by decide +kernel)) rfl⟩
theorem p_X8_16 : PF TX8 16 := ⟨rfl, by decide +kernel⟩
theorem l_X8_205 : FL RX8 205 RX8 TX8 29 17 := ⟨by decide, rfl, Gw_in (List.mem_of_getElem? (i := 971) (by decide +kernel)) rfl⟩
theorem p_X8_17 : PF TX8 17 := ⟨rfl, by decide +kernel⟩
abbrev M_X8_gives : MT := (yX8_gives, cX8_gives, 8, (some .boolean))
theorem m_X8_gives : MV M_X8_gives 6 := ⟨⟨Gw_in (List.mem_of_getElem? (i := 1231) (by decide +kernel)) rfl, Gw_in (List.mem_of_getElem? (i := 83) (by decide +kernel)) rfl, by decide, by decide, by decide, by decide +kernel⟩, Gw_in (List.mem_of_getElem? (i := 1230) (by decide +kernel)) rfl, Gw_in (List.mem_of_getElem? (i := 56) (by decide +kernel)) rfl⟩
theorem k_X8_208 : Cond.methodLink RX8 208 yX8_gives ∈ Gw := Gw_in (List.mem_of_getElem? (i := 1228) (by decide +kernel)) rfl
abbrev M_X8_tryStages : MT := (yX8_tryStages, cX8_tryStages, 6, (some .boolean))
theorem m_X8_tryStages : MV M_X8_tryStages 3 := ⟨⟨Gw_in (List.mem_of_getElem? (i := 1227) (by decide +kernel)) rfl, Gw_in (List.mem_of_getElem? (i := 83) (by decide +kernel)) rfl, by decide, by decide, by decide, by decide +kernel⟩, Gw_in (List.mem_of_getElem? (i := 1226) (by decide +kernel)) rfl, Gw_in (List.mem_of_getElem? (i := 55) (by decide +kernel)) rfl⟩
theorem k_X8_212 : Cond.methodLink RX8 212 yX8_tryStages ∈ Gw := Gw_in (List.mem_of_getElem? (i := 1224) (by decide +kernel)) rfl
abbrev M_X8_stage : MT := (yX8_stage, cX8_stage, 5, (some .int))
theorem m_X8_stage : MV M_X8_stage 4 := ⟨⟨Gw_in (List.mem_of_getElem? (i := 1223) (by decide +kernel)) rfl, Gw_in (List.mem_of_getElem? (i := 83) (by decide +kernel)) rfl, by decide, by decide, by decide, by decide +kernel⟩, Gw_in (List.mem_of_getElem? (i := 1221) (by decide +kernel)) rfl, Gw_in (List.mem_of_getElem? (i := 1222) (by decide +kernel)) rfl⟩
abbrev M_X8_forbid : MT := (yX8_forbid, cX8_forbid, 4, (some .int))
theorem m_X8_forbid : MV M_X8_forbid 1 := ⟨⟨Gw_in (List.mem_of_getElem? (i := 1239) (by decide +kernel)) rfl, Gw_in (List.mem_of_getElem? (i := 83) (by decide +kernel)) rfl, by decide, by decide, by decide, by decide +kernel⟩, Gw_in (List.mem_of_getElem? (i := 1237) (by decide +kernel)) rfl, Gw_in (List.mem_of_getElem? (i := 1238) (by decide +kernel)) rfl⟩
abbrev M_X8_rentNow : MT := (yX8_rentNow, cX8_rentNow, 4, (some .int))
theorem m_X8_rentNow : MV M_X8_rentNow 1 := ⟨⟨Gw_in (List.mem_of_getElem? (i := 1247) (by decide +kernel)) rfl, Gw_in (List.mem_of_getElem? (i := 83) (by decide +kernel)) rfl, by decide, by decide, by decide, by decide +kernel⟩, Gw_in (List.mem_of_getElem? (i := 1246) (by decide +kernel)) rfl, Gw_in (List.mem_of_getElem? (i := 58) (by decide +kernel)) rfl⟩
theorem k_X8_216 : Cond.methodLink RX8 216 yX8_rentNow ∈ Gw := Gw_in (List.mem_of_getElem? (i := 1244) (by decide +kernel)) rfl
abbrev M_X8_rents : MT := (yX8_rents, cX8_rents, 2, (some .int))
theorem m_X8_rents : MV M_X8_rents 1 := ⟨⟨Gw_in (List.mem_of_getElem? (i := 1243) (by decide +kernel)) rfl, Gw_in (List.mem_of_getElem? (i := 83) (by decide +kernel)) rfl, by decide, by decide, by decide, by decide +kernel⟩, Gw_in (List.mem_of_getElem? (i := 1241) (by decide +kernel)) rfl, Gw_in (List.mem_of_getElem? (i := 1242) (by decide +kernel)) rfl⟩
abbrev M_X8_dearest : MT := (yX8_dearest, cX8_dearest, 3, (some .int))
theorem m_X8_dearest : MV M_X8_dearest 0 := ⟨⟨Gw_in (List.mem_of_getElem? (i := 1259) (by decide +kernel)) rfl, Gw_in (List.mem_of_getElem? (i := 83) (by decide +kernel)) rfl, by decide, by decide, by decide, by decide +kernel⟩, Gw_in (List.mem_of_getElem? (i := 1258) (by decide +kernel)) rfl, Gw_in (List.mem_of_getElem? (i := 60) (by decide +kernel)) rfl⟩
theorem k_X8_219 : Cond.methodLink RX8 219 yX8_dearest ∈ Gw := Gw_in (List.mem_of_getElem? (i := 1256) (by decide +kernel)) rfl
theorem l_X8_53 : FL RX8 53 RX8 TX8 29 18 := ⟨by decide, rfl, Gw_in (List.mem_of_getElem? (i := 972) (by decide +kernel)) rfl⟩
theorem l_X8_56 : FL RX8 56 RX8 TX8 29 19 := ⟨by decide, rfl, Gw_in (List.mem_of_getElem? (i := 973) (by decide +kernel)) rfl⟩
abbrev M_X8_layGets : MT := (yX8_layGets, cX8_layGets, 7, none)
theorem m_X8_layGets : MV M_X8_layGets 4 := ⟨⟨Gw_in (List.mem_of_getElem? (i := 1255) (by decide +kernel)) rfl, Gw_in (List.mem_of_getElem? (i := 83) (by decide +kernel)) rfl, by decide, by decide, by decide, by decide +kernel⟩, Gw_in (List.mem_of_getElem? (i := 1254) (by decide +kernel)) rfl, Gw_in (List.mem_of_getElem? (i := 59) (by decide +kernel)) rfl⟩
theorem k_X8_222 : Cond.methodLink RX8 222 yX8_layGets ∈ Gw := Gw_in (List.mem_of_getElem? (i := 1252) (by decide +kernel)) rfl
abbrev M_X8_landlords : MT := (yX8_landlords, cX8_landlords, 8, (some .int))
theorem m_X8_landlords : MV M_X8_landlords 4 := ⟨⟨Gw_in (List.mem_of_getElem? (i := 1251) (by decide +kernel)) rfl, Gw_in (List.mem_of_getElem? (i := 83) (by decide +kernel)) rfl, by decide, by decide, by decide, by decide +kernel⟩, Gw_in (List.mem_of_getElem? (i := 1249) (by decide +kernel)) rfl, Gw_in (List.mem_of_getElem? (i := 1250) (by decide +kernel)) rfl⟩
theorem l_X8_59 : FL RX8 59 RX8 TX8 29 20 := ⟨by decide, rfl, Gw_in (List.mem_of_getElem? (i := 974) (by decide +kernel)) rfl⟩
abbrev M_X8_goAlong : MT := (yX8_goAlong, cX8_goAlong, 8, (some .boolean))
theorem m_X8_goAlong : MV M_X8_goAlong 3 := ⟨⟨Gw_in (List.mem_of_getElem? (i := 1267) (by decide +kernel)) rfl, Gw_in (List.mem_of_getElem? (i := 83) (by decide +kernel)) rfl, by decide, by decide, by decide, by decide +kernel⟩, Gw_in (List.mem_of_getElem? (i := 1266) (by decide +kernel)) rfl, Gw_in (List.mem_of_getElem? (i := 61) (by decide +kernel)) rfl⟩
theorem k_X8_225 : Cond.methodLink RX8 225 yX8_goAlong ∈ Gw := Gw_in (List.mem_of_getElem? (i := 1264) (by decide +kernel)) rfl
abbrev M_X8_round : MT := (yX8_round, cX8_round, 6, (some .int))
theorem m_X8_round : MV M_X8_round 2 := ⟨⟨Gw_in (List.mem_of_getElem? (i := 1263) (by decide +kernel)) rfl, Gw_in (List.mem_of_getElem? (i := 83) (by decide +kernel)) rfl, by decide, by decide, by decide, by decide +kernel⟩, Gw_in (List.mem_of_getElem? (i := 1261) (by decide +kernel)) rfl, Gw_in (List.mem_of_getElem? (i := 1262) (by decide +kernel)) rfl⟩
abbrev M_X8_reading : MT := (yX8_reading, cX8_reading, 5, (some .int))
theorem m_X8_reading : MV M_X8_reading 3 := ⟨⟨Gw_in (List.mem_of_getElem? (i := 1271) (by decide +kernel)) rfl, Gw_in (List.mem_of_getElem? (i := 83) (by decide +kernel)) rfl, by decide, by decide, by decide, by decide +kernel⟩, Gw_in (List.mem_of_getElem? (i := 1269) (by decide +kernel)) rfl, Gw_in (List.mem_of_getElem? (i := 1270) (by decide +kernel)) rfl⟩
abbrev M_X8_burn : MT := (yX8_burn, cX8_burn, 2, (some .int))
theorem m_X8_burn : MV M_X8_burn 0 := ⟨⟨Gw_in (List.mem_of_getElem? (i := 1275) (by decide +kernel)) rfl, Gw_in (List.mem_of_getElem? (i := 83) (by decide +kernel)) rfl, by decide, by decide, by decide, by decide +kernel⟩, Gw_in (List.mem_of_getElem? (i := 1273) (by decide +kernel)) rfl, Gw_in (List.mem_of_getElem? (i := 1274) (by decide +kernel)) rfl⟩
abbrev M_X8_areRead : MT := (yX8_areRead, cX8_areRead, 4, (some .boolean))
theorem m_X8_areRead : MV M_X8_areRead 0 := ⟨⟨Gw_in (List.mem_of_getElem? (i := 1283) (by decide +kernel)) rfl, Gw_in (List.mem_of_getElem? (i := 83) (by decide +kernel)) rfl, by decide, by decide, by decide, by decide +kernel⟩, Gw_in (List.mem_of_getElem? (i := 1282) (by decide +kernel)) rfl, Gw_in (List.mem_of_getElem? (i := 62) (by decide +kernel)) rfl⟩
theorem k_X8_228 : Cond.methodLink RX8 228 yX8_areRead ∈ Gw := Gw_in (List.mem_of_getElem? (i := 1280) (by decide +kernel)) rfl
abbrev M_X8_truly : MT := (yX8_truly, cX8_truly, 6, (some .int))
theorem m_X8_truly : MV M_X8_truly 1 := ⟨⟨Gw_in (List.mem_of_getElem? (i := 1279) (by decide +kernel)) rfl, Gw_in (List.mem_of_getElem? (i := 83) (by decide +kernel)) rfl, by decide, by decide, by decide, by decide +kernel⟩, Gw_in (List.mem_of_getElem? (i := 1277) (by decide +kernel)) rfl, Gw_in (List.mem_of_getElem? (i := 1278) (by decide +kernel)) rfl⟩
theorem t_X8_232 : Cond.constantLong RX8 232 (999999 : Int64) ∈ Gw := Gw_in (List.mem_of_getElem? (i := 1288) (by decide +kernel)) rfl
theorem t_X8_234 : Cond.constantLong RX8 234 (30 : Int64) ∈ Gw := Gw_in (List.mem_of_getElem? (i := 1289) (by decide +kernel)) rfl
theorem t_X8_236 : Cond.constantLong RX8 236 (100 : Int64) ∈ Gw := Gw_in (List.mem_of_getElem? (i := 1290) (by decide +kernel)) rfl
theorem t_X8_238 : Cond.constantLong RX8 238 (1103515245 : Int64) ∈ Gw := Gw_in (List.mem_of_getElem? (i := 1291) (by decide +kernel)) rfl
theorem t_X8_240 : Cond.constantLong RX8 240 (12345 : Int64) ∈ Gw := Gw_in (List.mem_of_getElem? (i := 1292) (by decide +kernel)) rfl
theorem t_X8_242 : Cond.constantLong RX8 242 (2147483648 : Int64) ∈ Gw := Gw_in (List.mem_of_getElem? (i := 1293) (by decide +kernel)) rfl
theorem t_X8_244 : Cond.constantLong RX8 244 (65536 : Int64) ∈ Gw := Gw_in (List.mem_of_getElem? (i := 1294) (by decide +kernel)) rfl
abbrev M_X8_drawn : MT := (yX8_drawn, cX8_drawn, 10, (some .int))
theorem m_X8_drawn : MV M_X8_drawn 3 := ⟨⟨Gw_in (List.mem_of_getElem? (i := 1287) (by decide +kernel)) rfl, Gw_in (List.mem_of_getElem? (i := 83) (by decide +kernel)) rfl, by decide, by decide, by decide, by decide +kernel⟩, Gw_in (List.mem_of_getElem? (i := 1285) (by decide +kernel)) rfl, Gw_in (List.mem_of_getElem? (i := 1286) (by decide +kernel)) rfl⟩
theorem t_X8_246 : Cond.constantLong RX8 246 (127 : Int64) ∈ Gw := Gw_in (List.mem_of_getElem? (i := 1299) (by decide +kernel)) rfl
theorem l_X8_248 : FL RX8 248 RX8 TX8 29 22 := ⟨by decide, rfl, Gw_in (List.mem_of_getElem? (i := 976) (by decide +kernel)) rfl⟩
theorem l_X8_62 : FL RX8 62 RX8 TX8 29 21 := ⟨by decide, rfl, Gw_in (List.mem_of_getElem? (i := 975) (by decide +kernel)) rfl⟩
theorem p_X8_22 : PF TX8 22 := ⟨rfl, by decide +kernel⟩
abbrev M_X8_type : MT := (yX8_type, cX8_type, 2, (some .int))
theorem m_X8_type : MV M_X8_type 1 := ⟨⟨Gw_in (List.mem_of_getElem? (i := 1298) (by decide +kernel)) rfl, Gw_in (List.mem_of_getElem? (i := 83) (by decide +kernel)) rfl, by decide, by decide, by decide, by decide +kernel⟩, Gw_in (List.mem_of_getElem? (i := 1296) (by decide +kernel)) rfl, Gw_in (List.mem_of_getElem? (i := 1297) (by decide +kernel)) rfl⟩
abbrev M_X8_clear : MT := (yX8_clear, cX8_clear, 2, (some .int))
theorem m_X8_clear : MV M_X8_clear 0 := ⟨⟨Gw_in (List.mem_of_getElem? (i := 1303) (by decide +kernel)) rfl, Gw_in (List.mem_of_getElem? (i := 83) (by decide +kernel)) rfl, by decide, by decide, by decide, by decide +kernel⟩, Gw_in (List.mem_of_getElem? (i := 1301) (by decide +kernel)) rfl, Gw_in (List.mem_of_getElem? (i := 1302) (by decide +kernel)) rfl⟩
theorem t_X8_251 : Cond.constantLong RX8 251 (97 : Int64) ∈ Gw := Gw_in (List.mem_of_getElem? (i := 1315) (by decide +kernel)) rfl
theorem t_X8_253 : Cond.constantLong RX8 253 (122 : Int64) ∈ Gw := Gw_in (List.mem_of_getElem? (i := 1316) (by decide +kernel)) rfl
abbrev M_X8_isSmall : MT := (yX8_isSmall, cX8_isSmall, 1, (some .boolean))
theorem m_X8_isSmall : MS M_X8_isSmall 1 := ⟨⟨Gw_in (List.mem_of_getElem? (i := 1314) (by decide +kernel)) rfl, Gw_in (List.mem_of_getElem? (i := 83) (by decide +kernel)) rfl, by decide, by decide, by decide, by decide +kernel⟩, Gw_in (List.mem_of_getElem? (i := 1313) (by decide +kernel)) rfl⟩
theorem t_X8_255 : Cond.constantLong RX8 255 (48 : Int64) ∈ Gw := Gw_in (List.mem_of_getElem? (i := 1320) (by decide +kernel)) rfl
theorem t_X8_257 : Cond.constantLong RX8 257 (57 : Int64) ∈ Gw := Gw_in (List.mem_of_getElem? (i := 1321) (by decide +kernel)) rfl
abbrev M_X8_isFigure : MT := (yX8_isFigure, cX8_isFigure, 1, (some .boolean))
theorem m_X8_isFigure : MS M_X8_isFigure 1 := ⟨⟨Gw_in (List.mem_of_getElem? (i := 1319) (by decide +kernel)) rfl, Gw_in (List.mem_of_getElem? (i := 83) (by decide +kernel)) rfl, by decide, by decide, by decide, by decide +kernel⟩, Gw_in (List.mem_of_getElem? (i := 1318) (by decide +kernel)) rfl⟩
theorem l_X8_259 : FL RX8 259 RX8 TX8 29 23 := ⟨by decide, rfl, Gw_in (List.mem_of_getElem? (i := 977) (by decide +kernel)) rfl⟩
theorem p_X8_23 : PF TX8 23 := ⟨rfl, by decide +kernel⟩
theorem l_X8_262 : FL RX8 262 RX8 TX8 29 24 := ⟨by decide, rfl, Gw_in (List.mem_of_getElem? (i := 978) (by decide +kernel)) rfl⟩
theorem p_X8_24 : PF TX8 24 := ⟨rfl, by decide +kernel⟩
theorem l_X8_265 : FL RX8 265 RX8 TX8 29 25 := ⟨by decide, rfl, Gw_in (List.mem_of_getElem? (i := 979) (by decide +kernel)) rfl⟩
theorem p_X8_25 : PF TX8 25 := ⟨rfl, by decide +kernel⟩
theorem l_X8_268 : FL RX8 268 RX8 TX8 29 26 := ⟨by decide, rfl, Gw_in (List.mem_of_getElem? (i := 980) (by decide +kernel)) rfl⟩
theorem p_X8_26 : PF TX8 26 := ⟨rfl, by decide +kernel⟩
theorem k_X8_271 : Cond.methodLink RX8 271 yX8_isSmall ∈ Gw := Gw_in (List.mem_of_getElem? (i := 1312) (by decide +kernel)) rfl
theorem k_X8_274 : Cond.methodLink RX8 274 yX8_isFigure ∈ Gw := Gw_in (List.mem_of_getElem? (i := 1317) (by decide +kernel)) rfl
abbrev M_X8_look : MT := (yX8_look, cX8_look, 5, none)
theorem m_X8_look : MV M_X8_look 1 := ⟨⟨Gw_in (List.mem_of_getElem? (i := 1311) (by decide +kernel)) rfl, Gw_in (List.mem_of_getElem? (i := 83) (by decide +kernel)) rfl, by decide, by decide, by decide, by decide +kernel⟩, Gw_in (List.mem_of_getElem? (i := 1310) (by decide +kernel)) rfl, Gw_in (List.mem_of_getElem? (i := 63) (by decide +kernel)) rfl⟩
theorem k_X8_277 : Cond.methodLink RX8 277 yX8_look ∈ Gw := Gw_in (List.mem_of_getElem? (i := 1308) (by decide +kernel)) rfl
abbrev M_X8_goOn : MT := (yX8_goOn, cX8_goOn, 1, none)
theorem m_X8_goOn : MV M_X8_goOn 0 := ⟨⟨Gw_in (List.mem_of_getElem? (i := 1333) (by decide +kernel)) rfl, Gw_in (List.mem_of_getElem? (i := 83) (by decide +kernel)) rfl, by decide, by decide, by decide, by decide +kernel⟩, Gw_in (List.mem_of_getElem? (i := 1332) (by decide +kernel)) rfl, Gw_in (List.mem_of_getElem? (i := 66) (by decide +kernel)) rfl⟩
abbrev M_X8_isCalled : MT := (yX8_isCalled, cX8_isCalled, 10, (some .boolean))
theorem m_X8_isCalled : MV M_X8_isCalled 7 := ⟨⟨Gw_in (List.mem_of_getElem? (i := 1329) (by decide +kernel)) rfl, Gw_in (List.mem_of_getElem? (i := 83) (by decide +kernel)) rfl, by decide, by decide, by decide, by decide +kernel⟩, Gw_in (List.mem_of_getElem? (i := 1328) (by decide +kernel)) rfl, Gw_in (List.mem_of_getElem? (i := 65) (by decide +kernel)) rfl⟩
theorem l_X8_68 : FL RX8 68 RX8 TX8 29 28 := ⟨by decide, rfl, Gw_in (List.mem_of_getElem? (i := 982) (by decide +kernel)) rfl⟩
theorem k_X8_280 : Cond.methodLink RX8 280 yX8_goOn ∈ Gw := Gw_in (List.mem_of_getElem? (i := 1330) (by decide +kernel)) rfl
abbrev M_X8_takes : MT := (yX8_takes, cX8_takes, 4, (some .boolean))
theorem m_X8_takes : MV M_X8_takes 3 := ⟨⟨Gw_in (List.mem_of_getElem? (i := 1337) (by decide +kernel)) rfl, Gw_in (List.mem_of_getElem? (i := 83) (by decide +kernel)) rfl, by decide, by decide, by decide, by decide +kernel⟩, Gw_in (List.mem_of_getElem? (i := 1336) (by decide +kernel)) rfl, Gw_in (List.mem_of_getElem? (i := 67) (by decide +kernel)) rfl⟩
theorem k_X8_283 : Cond.methodLink RX8 283 yX8_isCalled ∈ Gw := Gw_in (List.mem_of_getElem? (i := 1326) (by decide +kernel)) rfl
theorem k_X8_287 : Cond.methodLink RX8 287 yX8_takes ∈ Gw := Gw_in (List.mem_of_getElem? (i := 1334) (by decide +kernel)) rfl
theorem l_X8_65 : FL RX8 65 RX8 TX8 29 27 := ⟨by decide, rfl, Gw_in (List.mem_of_getElem? (i := 981) (by decide +kernel)) rfl⟩
abbrev M_X8_readsFirst : MT := (yX8_readsFirst, cX8_readsFirst, 2, (some .boolean))
theorem m_X8_readsFirst : MV M_X8_readsFirst 0 := ⟨⟨Gw_in (List.mem_of_getElem? (i := 1325) (by decide +kernel)) rfl, Gw_in (List.mem_of_getElem? (i := 83) (by decide +kernel)) rfl, by decide, by decide, by decide, by decide +kernel⟩, Gw_in (List.mem_of_getElem? (i := 1324) (by decide +kernel)) rfl, Gw_in (List.mem_of_getElem? (i := 64) (by decide +kernel)) rfl⟩
abbrev M_X8_readsStreet : MT := (yX8_readsStreet, cX8_readsStreet, 1, (some .boolean))
theorem m_X8_readsStreet : MV M_X8_readsStreet 0 := ⟨⟨Gw_in (List.mem_of_getElem? (i := 1345) (by decide +kernel)) rfl, Gw_in (List.mem_of_getElem? (i := 83) (by decide +kernel)) rfl, by decide, by decide, by decide, by decide +kernel⟩, Gw_in (List.mem_of_getElem? (i := 1344) (by decide +kernel)) rfl, Gw_in (List.mem_of_getElem? (i := 69) (by decide +kernel)) rfl⟩
abbrev M_X8_readsEvent : MT := (yX8_readsEvent, cX8_readsEvent, 1, (some .boolean))
theorem m_X8_readsEvent : MV M_X8_readsEvent 0 := ⟨⟨Gw_in (List.mem_of_getElem? (i := 1349) (by decide +kernel)) rfl, Gw_in (List.mem_of_getElem? (i := 83) (by decide +kernel)) rfl, by decide, by decide, by decide, by decide +kernel⟩, Gw_in (List.mem_of_getElem? (i := 1348) (by decide +kernel)) rfl, Gw_in (List.mem_of_getElem? (i := 70) (by decide +kernel)) rfl⟩
abbrev M_X8_readsRent : MT := (yX8_readsRent, cX8_readsRent, 1, (some .boolean))
theorem m_X8_readsRent : MV M_X8_readsRent 0 := ⟨⟨Gw_in (List.mem_of_getElem? (i := 1353) (by decide +kernel)) rfl, Gw_in (List.mem_of_getElem? (i := 83) (by decide +kernel)) rfl, by decide, by decide, by decide, by decide +kernel⟩, Gw_in (List.mem_of_getElem? (i := 1352) (by decide +kernel)) rfl, Gw_in (List.mem_of_getElem? (i := 71) (by decide +kernel)) rfl⟩
theorem k_X8_296 : Cond.methodLink RX8 296 yX8_readsRent ∈ Gw := Gw_in (List.mem_of_getElem? (i := 1350) (by decide +kernel)) rfl
theorem k_X8_293 : Cond.methodLink RX8 293 yX8_readsEvent ∈ Gw := Gw_in (List.mem_of_getElem? (i := 1346) (by decide +kernel)) rfl
theorem k_X8_290 : Cond.methodLink RX8 290 yX8_readsStreet ∈ Gw := Gw_in (List.mem_of_getElem? (i := 1342) (by decide +kernel)) rfl
abbrev M_X8_readsItem : MT := (yX8_readsItem, cX8_readsItem, 1, (some .boolean))
theorem m_X8_readsItem : MV M_X8_readsItem 0 := ⟨⟨Gw_in (List.mem_of_getElem? (i := 1341) (by decide +kernel)) rfl, Gw_in (List.mem_of_getElem? (i := 83) (by decide +kernel)) rfl, by decide, by decide, by decide, by decide +kernel⟩, Gw_in (List.mem_of_getElem? (i := 1340) (by decide +kernel)) rfl, Gw_in (List.mem_of_getElem? (i := 68) (by decide +kernel)) rfl⟩
theorem k_X8_299 : Cond.methodLink RX8 299 yX8_readsFirst ∈ Gw := Gw_in (List.mem_of_getElem? (i := 1322) (by decide +kernel)) rfl
theorem k_X8_302 : Cond.methodLink RX8 302 yX8_readsItem ∈ Gw := Gw_in (List.mem_of_getElem? (i := 1338) (by decide +kernel)) rfl
abbrev M_X8_read : MT := (yX8_read, cX8_read, 3, (some .int))
theorem m_X8_read : MV M_X8_read 0 := ⟨⟨Gw_in (List.mem_of_getElem? (i := 1307) (by decide +kernel)) rfl, Gw_in (List.mem_of_getElem? (i := 83) (by decide +kernel)) rfl, by decide, by decide, by decide, by decide +kernel⟩, Gw_in (List.mem_of_getElem? (i := 1305) (by decide +kernel)) rfl, Gw_in (List.mem_of_getElem? (i := 1306) (by decide +kernel)) rfl⟩
theorem l_X8_16 : FL RX8 16 RX8 TX8 29 2 := ⟨by decide, rfl, Gw_in (List.mem_of_getElem? (i := 956) (by decide +kernel)) rfl⟩
theorem l_X8_13 : FL RX8 13 RX8 TX8 29 1 := ⟨by decide, rfl, Gw_in (List.mem_of_getElem? (i := 955) (by decide +kernel)) rfl⟩
abbrev M_X8_image : MT := (yX8_image, cX8_image, 3, (some .int))
theorem m_X8_image : MV M_X8_image 1 := ⟨⟨Gw_in (List.mem_of_getElem? (i := 1357) (by decide +kernel)) rfl, Gw_in (List.mem_of_getElem? (i := 83) (by decide +kernel)) rfl, by decide, by decide, by decide, by decide +kernel⟩, Gw_in (List.mem_of_getElem? (i := 1355) (by decide +kernel)) rfl, Gw_in (List.mem_of_getElem? (i := 1356) (by decide +kernel)) rfl⟩
abbrev M_X8_from : MT := (yX8_from, cX8_from, 3, (some .int))
theorem m_X8_from : MV M_X8_from 1 := ⟨⟨Gw_in (List.mem_of_getElem? (i := 1361) (by decide +kernel)) rfl, Gw_in (List.mem_of_getElem? (i := 83) (by decide +kernel)) rfl, by decide, by decide, by decide, by decide +kernel⟩, Gw_in (List.mem_of_getElem? (i := 1359) (by decide +kernel)) rfl, Gw_in (List.mem_of_getElem? (i := 1360) (by decide +kernel)) rfl⟩
abbrev M_X8_status : MT := (yX8_status, cX8_status, 2, (some .int))
theorem m_X8_status : MV M_X8_status 1 := ⟨⟨Gw_in (List.mem_of_getElem? (i := 1365) (by decide +kernel)) rfl, Gw_in (List.mem_of_getElem? (i := 83) (by decide +kernel)) rfl, by decide, by decide, by decide, by decide +kernel⟩, Gw_in (List.mem_of_getElem? (i := 1363) (by decide +kernel)) rfl, Gw_in (List.mem_of_getElem? (i := 1364) (by decide +kernel)) rfl⟩
abbrev M_X8_counted : MT := (yX8_counted, cX8_counted, 2, (some .int))
theorem m_X8_counted : MV M_X8_counted 1 := ⟨⟨Gw_in (List.mem_of_getElem? (i := 1373) (by decide +kernel)) rfl, Gw_in (List.mem_of_getElem? (i := 83) (by decide +kernel)) rfl, by decide, by decide, by decide, by decide +kernel⟩, Gw_in (List.mem_of_getElem? (i := 1372) (by decide +kernel)) rfl, Gw_in (List.mem_of_getElem? (i := 72) (by decide +kernel)) rfl⟩
theorem k_X8_305 : Cond.methodLink RX8 305 yX8_counted ∈ Gw := Gw_in (List.mem_of_getElem? (i := 1370) (by decide +kernel)) rfl
abbrev M_X8_count : MT := (yX8_count, cX8_count, 2, (some .int))
theorem m_X8_count : MV M_X8_count 1 := ⟨⟨Gw_in (List.mem_of_getElem? (i := 1369) (by decide +kernel)) rfl, Gw_in (List.mem_of_getElem? (i := 83) (by decide +kernel)) rfl, by decide, by decide, by decide, by decide +kernel⟩, Gw_in (List.mem_of_getElem? (i := 1367) (by decide +kernel)) rfl, Gw_in (List.mem_of_getElem? (i := 1368) (by decide +kernel)) rfl⟩
theorem t_X8_308 : Cond.constantLong RX8 308 (31 : Int64) ∈ Gw := Gw_in (List.mem_of_getElem? (i := 1379) (by decide +kernel)) rfl
abbrev M_X8_sums : MT := (yX8_sums, cX8_sums, 8, (some .long))
theorem m_X8_sums : MV M_X8_sums 3 := ⟨⟨Gw_in (List.mem_of_getElem? (i := 1383) (by decide +kernel)) rfl, Gw_in (List.mem_of_getElem? (i := 83) (by decide +kernel)) rfl, by decide, by decide, by decide, by decide +kernel⟩, Gw_in (List.mem_of_getElem? (i := 1382) (by decide +kernel)) rfl, Gw_in (List.mem_of_getElem? (i := 73) (by decide +kernel)) rfl⟩
theorem t_X8_310 : Cond.constantLong RX8 310 (911 : Int64) ∈ Gw := Gw_in (List.mem_of_getElem? (i := 1378) (by decide +kernel)) rfl
theorem k_X8_312 : Cond.methodLink RX8 312 yX8_sums ∈ Gw := Gw_in (List.mem_of_getElem? (i := 1380) (by decide +kernel)) rfl
abbrev M_X8_digest : MT := (yX8_digest, cX8_digest, 4, (some .long))
theorem m_X8_digest : MV M_X8_digest 0 := ⟨⟨Gw_in (List.mem_of_getElem? (i := 1377) (by decide +kernel)) rfl, Gw_in (List.mem_of_getElem? (i := 83) (by decide +kernel)) rfl, by decide, by decide, by decide, by decide +kernel⟩, Gw_in (List.mem_of_getElem? (i := 1375) (by decide +kernel)) rfl, Gw_in (List.mem_of_getElem? (i := 1376) (by decide +kernel)) rfl⟩
