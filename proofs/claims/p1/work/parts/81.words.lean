/-! the code words; the system as the small machine takes it -/
theorem jw_t1 {w : Cond} (h : w ∈ tables_1_1) : w ∈ tables_1 := List.mem_append_left _ h
theorem jw_t2 {w : Cond} (h : w ∈ tables_1_2) : w ∈ tables_1 := List.mem_append_right _ (List.mem_append_left _ h)
theorem jw_t3 {w : Cond} (h : w ∈ tables_1_3) : w ∈ tables_1 := List.mem_append_right _ (List.mem_append_right _ (List.mem_append_left _ h))
theorem jw_t4 {w : Cond} (h : w ∈ tables_1_4) : w ∈ tables_1 := List.mem_append_right _ (List.mem_append_right _ (List.mem_append_right _ (List.mem_append_left _ h)))
theorem jw_t5 {w : Cond} (h : w ∈ tables_1_5) : w ∈ tables_1 := List.mem_append_right _ (List.mem_append_right _ (List.mem_append_right _ (List.mem_append_right _ (List.mem_append_left _ h))))
theorem jw_t6 {w : Cond} (h : w ∈ tables_1_6) : w ∈ tables_1 := List.mem_append_right _ (List.mem_append_right _ (List.mem_append_right _ (List.mem_append_right _ (List.mem_append_right _ (List.mem_append_left _ h)))))
theorem jw_t7 {w : Cond} (h : w ∈ tables_1_7) : w ∈ tables_1 := List.mem_append_right _ (List.mem_append_right _ (List.mem_append_right _ (List.mem_append_right _ (List.mem_append_right _ (List.mem_append_right _ (List.mem_append_left _ h))))))
theorem jw_t8 {w : Cond} (h : w ∈ tables_1_8) : w ∈ tables_1 := List.mem_append_right _ (List.mem_append_right _ (List.mem_append_right _ (List.mem_append_right _ (List.mem_append_right _ (List.mem_append_right _ (List.mem_append_right _ (List.mem_append_left _ h)))))))
theorem jw_t9 {w : Cond} (h : w ∈ tables_1_9) : w ∈ tables_1 := List.mem_append_right _ (List.mem_append_right _ (List.mem_append_right _ (List.mem_append_right _ (List.mem_append_right _ (List.mem_append_right _ (List.mem_append_right _ (List.mem_append_right _ (List.mem_append_left _ h))))))))
theorem jw_t10 {w : Cond} (h : w ∈ tables_1_10) : w ∈ tables_1 := List.mem_append_right _ (List.mem_append_right _ (List.mem_append_right _ (List.mem_append_right _ (List.mem_append_right _ (List.mem_append_right _ (List.mem_append_right _ (List.mem_append_right _ (List.mem_append_right _ (h)))))))))
theorem jw_0 : Cond.code yX0_init cX0_init 1 none ∈ tables_1 := jw_t1 (List.mem_of_getElem? (i := 46) rfl)
theorem jw_1 : Cond.code yX1_init cX1_init 1 none ∈ tables_1 := jw_t2 (List.mem_of_getElem? (i := 41) rfl)
theorem jw_2 : Cond.code yX1_check cX1_check 6 (some .int) ∈ tables_1 := jw_t3 (List.mem_of_getElem? (i := 217) rfl)
theorem jw_3 : Cond.code yX1_localAt cX1_localAt 3 (some .int) ∈ tables_1 := jw_t5 (List.mem_of_getElem? (i := 173) rfl)
theorem jw_4 : Cond.code yX1_stackAt cX1_stackAt 3 (some .int) ∈ tables_1 := jw_t5 (List.mem_of_getElem? (i := 177) rfl)
theorem jw_5 : Cond.code yX1_begin cX1_begin 3 none ∈ tables_1 := jw_t3 (List.mem_of_getElem? (i := 221) rfl)
theorem jw_6 : Cond.code yX1_lookAt cX1_lookAt 7 (some .int) ∈ tables_1 := jw_t5 (List.mem_of_getElem? (i := 65) rfl)
theorem jw_7 : Cond.code yX1_takeState cX1_takeState 2 none ∈ tables_1 := jw_t5 (List.mem_of_getElem? (i := 69) rfl)
theorem jw_8 : Cond.code yX1_ask cX1_ask 4 none ∈ tables_1 := jw_t5 (List.mem_of_getElem? (i := 74) rfl)
theorem jw_9 : Cond.code yX1_askOfObjects cX1_askOfObjects 4 none ∈ tables_1 := jw_t5 (List.mem_of_getElem? (i := 94) rfl)
theorem jw_10 : Cond.code yX1_askOfCall cX1_askOfCall 4 none ∈ tables_1 := jw_t5 (List.mem_of_getElem? (i := 90) rfl)
theorem jw_11 : Cond.code yX1_want cX1_want 2 none ∈ tables_1 := jw_t5 (List.mem_of_getElem? (i := 78) rfl)
theorem jw_12 : Cond.code yX1_give cX1_give 2 none ∈ tables_1 := jw_t5 (List.mem_of_getElem? (i := 82) rfl)
theorem jw_13 : Cond.code yX1_takeWanted cX1_takeWanted 3 (some .int) ∈ tables_1 := jw_t5 (List.mem_of_getElem? (i := 102) rfl)
theorem jw_14 : Cond.code yX1_fits cX1_fits 3 (some .boolean) ∈ tables_1 := jw_t5 (List.mem_of_getElem? (i := 106) rfl)
theorem jw_15 : Cond.code yX1_goTo cX1_goTo 5 (some .int) ∈ tables_1 := jw_t5 (List.mem_of_getElem? (i := 117) rfl)
theorem jw_16 : Cond.code yX1_meetAll cX1_meetAll 7 none ∈ tables_1 := jw_t5 (List.mem_of_getElem? (i := 121) rfl)
theorem jw_17 : Cond.code yX1_meet cX1_meet 5 (some .int) ∈ tables_1 := jw_t5 (List.mem_of_getElem? (i := 125) rfl)
theorem jw_18 : Cond.code yX2_init cX2_init 1 none ∈ tables_1 := jw_t3 (List.mem_of_getElem? (i := 3) rfl)
theorem jw_19 : Cond.code yX2_forget cX2_forget 1 none ∈ tables_1 := jw_t5 (List.mem_of_getElem? (i := 132) rfl)
theorem jw_20 : Cond.code yX2_go cX2_go 6 (some .int) ∈ tables_1 := jw_t7 (List.mem_of_getElem? (i := 17) rfl)
theorem jw_21 : Cond.code yX2_takeTrace cX2_takeTrace 3 none ∈ tables_1 := jw_t7 (List.mem_of_getElem? (i := 95) rfl)
theorem jw_22 : Cond.code yX2_tellBack cX2_tellBack 6 none ∈ tables_1 := jw_t7 (List.mem_of_getElem? (i := 99) rfl)
theorem jw_23 : Cond.code yX2_addBack cX2_addBack 2 none ∈ tables_1 := jw_t7 (List.mem_of_getElem? (i := 103) rfl)
theorem jw_24 : Cond.code yX2_pushFrame cX2_pushFrame 2 none ∈ tables_1 := jw_t7 (List.mem_of_getElem? (i := 22) rfl)
theorem jw_25 : Cond.code yX2_trap cX2_trap 2 none ∈ tables_1 := jw_t7 (List.mem_of_getElem? (i := 50) rfl)
theorem jw_26 : Cond.code yX2_push cX2_push 3 none ∈ tables_1 := jw_t7 (List.mem_of_getElem? (i := 60) rfl)
theorem jw_27 : Cond.code yX2_pop cX2_pop 2 (some .int) ∈ tables_1 := jw_t7 (List.mem_of_getElem? (i := 37) rfl)
theorem jw_28 : Cond.code yX2_step cX2_step 6 none ∈ tables_1 := jw_t7 (List.mem_of_getElem? (i := 27) rfl)
theorem jw_29 : Cond.code yX2_jumps cX2_jumps 3 (some .boolean) ∈ tables_1 := jw_t7 (List.mem_of_getElem? (i := 33) rfl)
theorem jw_30 : Cond.code yX2_reckon cX2_reckon 4 none ∈ tables_1 := jw_t7 (List.mem_of_getElem? (i := 64) rfl)
theorem jw_31 : Cond.code yX2_doPlain cX2_doPlain 5 none ∈ tables_1 := jw_t7 (List.mem_of_getElem? (i := 73) rfl)
theorem jw_32 : Cond.code yX2_putOut cX2_putOut 2 none ∈ tables_1 := jw_t7 (List.mem_of_getElem? (i := 82) rfl)
theorem jw_33 : Cond.code yX2_makeObject cX2_makeObject 3 none ∈ tables_1 := jw_t7 (List.mem_of_getElem? (i := 77) rfl)
theorem jw_34 : Cond.code yX2_isObject cX2_isObject 2 (some .boolean) ∈ tables_1 := jw_t7 (List.mem_of_getElem? (i := 46) rfl)
theorem jw_35 : Cond.code yX2_isOf cX2_isOf 3 (some .boolean) ∈ tables_1 := jw_t7 (List.mem_of_getElem? (i := 90) rfl)
theorem jw_36 : Cond.code yX2_cast cX2_cast 3 none ∈ tables_1 := jw_t7 (List.mem_of_getElem? (i := 86) rfl)
theorem jw_37 : Cond.code yX2_useField cX2_useField 7 none ∈ tables_1 := jw_t7 (List.mem_of_getElem? (i := 69) rfl)
theorem jw_38 : Cond.code yX2_enter cX2_enter 8 none ∈ tables_1 := jw_t7 (List.mem_of_getElem? (i := 41) rfl)
theorem jw_39 : Cond.code yX2_leave cX2_leave 3 none ∈ tables_1 := jw_t7 (List.mem_of_getElem? (i := 56) rfl)
theorem jw_40 : Cond.code yX3_init cX3_init 1 none ∈ tables_1 := jw_t1 (List.mem_of_getElem? (i := 40) rfl)
theorem jw_41 : Cond.code yX3_hasClass cX3_hasClass 2 (some .boolean) ∈ tables_1 := jw_t3 (List.mem_of_getElem? (i := 177) rfl)
theorem jw_42 : Cond.code yX3_hasField cX3_hasField 3 (some .boolean) ∈ tables_1 := jw_t3 (List.mem_of_getElem? (i := 173) rfl)
theorem jw_43 : Cond.code yX3_hasMethod cX3_hasMethod 3 (some .boolean) ∈ tables_1 := jw_t3 (List.mem_of_getElem? (i := 181) rfl)
theorem jw_44 : Cond.code yX3_hasNumber cX3_hasNumber 2 (some .boolean) ∈ tables_1 := jw_t5 (List.mem_of_getElem? (i := 165) rfl)
theorem jw_45 : Cond.code yX3_hasInstruction cX3_hasInstruction 3 (some .boolean) ∈ tables_1 := jw_t5 (List.mem_of_getElem? (i := 161) rfl)
theorem jw_46 : Cond.code yX3_countFields cX3_countFields 3 (some .int) ∈ tables_1 := jw_t5 (List.mem_of_getElem? (i := 144) rfl)
theorem jw_47 : Cond.code yX3_countInstructions cX3_countInstructions 3 (some .int) ∈ tables_1 := jw_t5 (List.mem_of_getElem? (i := 148) rfl)
theorem jw_48 : Cond.code yX3_covers cX3_covers 5 (some .boolean) ∈ tables_1 := jw_t5 (List.mem_of_getElem? (i := 110) rfl)
theorem jw_49 : Cond.code yX3_meaning cX3_meaning 6 (some .int) ∈ tables_1 := jw_t6 (List.mem_of_getElem? (i := 27) rfl)
theorem jw_50 : Cond.code yX3_named cX3_named 5 (some .int) ∈ tables_1 := jw_t3 (List.mem_of_getElem? (i := 209) rfl)
theorem jw_51 : Cond.code yX3_receivers cX3_receivers 2 (some .int) ∈ tables_1 := jw_t3 (List.mem_of_getElem? (i := 147) rfl)
theorem jw_52 : Cond.code yX3_typeOfField cX3_typeOfField 4 (some .int) ∈ tables_1 := jw_t5 (List.mem_of_getElem? (i := 98) rfl)
theorem jw_53 : Cond.code yX3_typeOfParam cX3_typeOfParam 4 (some .int) ∈ tables_1 := jw_t5 (List.mem_of_getElem? (i := 60) rfl)
theorem jw_54 : Cond.code yX3_typeOfResult cX3_typeOfResult 2 (some .int) ∈ tables_1 := jw_t5 (List.mem_of_getElem? (i := 86) rfl)
theorem jw_55 : Cond.code yX3_sameFace cX3_sameFace 4 (some .boolean) ∈ tables_1 := jw_t3 (List.mem_of_getElem? (i := 213) rfl)
theorem jw_56 : Cond.code yX4_init cX4_init 1 none ∈ tables_1 := jw_t2 (List.mem_of_getElem? (i := 116) rfl)
theorem jw_57 : Cond.code yX4_find cX4_find 7 none ∈ tables_1 := jw_t6 (List.mem_of_getElem? (i := 18) rfl)
theorem jw_58 : Cond.code yX4_findMeans cX4_findMeans 3 none ∈ tables_1 := jw_t6 (List.mem_of_getElem? (i := 22) rfl)
theorem jw_59 : Cond.code yX4_goThrough cX4_goThrough 6 none ∈ tables_1 := jw_t6 (List.mem_of_getElem? (i := 34) rfl)
theorem jw_60 : Cond.code yX4_mark cX4_mark 3 none ∈ tables_1 := jw_t6 (List.mem_of_getElem? (i := 38) rfl)
theorem jw_61 : Cond.code yX4_markMeanings cX4_markMeanings 4 none ∈ tables_1 := jw_t6 (List.mem_of_getElem? (i := 42) rfl)
theorem jw_62 : Cond.code yX4_boundTo cX4_boundTo 5 (some .int) ∈ tables_1 := jw_t6 (List.mem_of_getElem? (i := 84) rfl)
theorem jw_63 : Cond.code yX5_init cX5_init 1 none ∈ tables_1 := jw_t1 (List.mem_of_getElem? (i := 238) rfl)
theorem jw_64 : Cond.code yX5_firstWrong cX5_firstWrong 5 (some .int) ∈ tables_1 := jw_t3 (List.mem_of_getElem? (i := 131) rfl)
theorem jw_65 : Cond.code yX5_firstStranger cX5_firstStranger 3 (some .int) ∈ tables_1 := jw_t3 (List.mem_of_getElem? (i := 165) rfl)
theorem jw_66 : Cond.code yX5_next cX5_next 4 (some .int) ∈ tables_1 := jw_t3 (List.mem_of_getElem? (i := 135) rfl)
theorem jw_67 : Cond.code yX5_readClass cX5_readClass 5 none ∈ tables_1 := jw_t3 (List.mem_of_getElem? (i := 139) rfl)
theorem jw_68 : Cond.code yX5_readMethod cX5_readMethod 4 none ∈ tables_1 := jw_t3 (List.mem_of_getElem? (i := 143) rfl)
theorem jw_69 : Cond.code yX5_readInstruction cX5_readInstruction 6 none ∈ tables_1 := jw_t3 (List.mem_of_getElem? (i := 151) rfl)
theorem jw_70 : Cond.code yX5_nextNumber cX5_nextNumber 3 (some .int) ∈ tables_1 := jw_t3 (List.mem_of_getElem? (i := 157) rfl)
theorem jw_71 : Cond.code yX5_noteTelling cX5_noteTelling 2 none ∈ tables_1 := jw_t3 (List.mem_of_getElem? (i := 161) rfl)
theorem jw_72 : Cond.code yX5_agrees cX5_agrees 5 (some .boolean) ∈ tables_1 := jw_t3 (List.mem_of_getElem? (i := 169) rfl)
theorem jw_73 : Cond.code yX5_findClash cX5_findClash 3 (some .boolean) ∈ tables_1 := jw_t3 (List.mem_of_getElem? (i := 189) rfl)
theorem jw_74 : Cond.code yX5_clash cX5_clash 4 (some .boolean) ∈ tables_1 := jw_t3 (List.mem_of_getElem? (i := 197) rfl)
theorem jw_75 : Cond.code yX5_fieldClashes cX5_fieldClashes 5 (some .boolean) ∈ tables_1 := jw_t3 (List.mem_of_getElem? (i := 193) rfl)
theorem jw_76 : Cond.code yX5_methodClashes cX5_methodClashes 5 (some .boolean) ∈ tables_1 := jw_t3 (List.mem_of_getElem? (i := 201) rfl)
theorem jw_77 : Cond.code yX5_methodClashesAbove cX5_methodClashesAbove 7 (some .boolean) ∈ tables_1 := jw_t3 (List.mem_of_getElem? (i := 205) rfl)
theorem jw_78 : Cond.code yX6_init cX6_init 1 none ∈ tables_1 := jw_t2 (List.mem_of_getElem? (i := 94) rfl)
theorem jw_79 : Cond.code yX6_makeSmall cX6_makeSmall 7 none ∈ tables_1 := jw_t6 (List.mem_of_getElem? (i := 13) rfl)
theorem jw_80 : Cond.code yX6_gather cX6_gather 11 none ∈ tables_1 := jw_t6 (List.mem_of_getElem? (i := 46) rfl)
theorem jw_81 : Cond.code yX6_growth cX6_growth 2 (some .int) ∈ tables_1 := jw_t6 (List.mem_of_getElem? (i := 66) rfl)
theorem jw_82 : Cond.code yX6_canPutIn cX6_canPutIn 5 (some .boolean) ∈ tables_1 := jw_t6 (List.mem_of_getElem? (i := 54) rfl)
theorem jw_83 : Cond.code yX6_isLeaf cX6_isLeaf 5 (some .boolean) ∈ tables_1 := jw_t6 (List.mem_of_getElem? (i := 58) rfl)
theorem jw_84 : Cond.code yX6_isPlain cX6_isPlain 2 (some .boolean) ∈ tables_1 := jw_t6 (List.mem_of_getElem? (i := 62) rfl)
theorem jw_85 : Cond.code yX6_highest cX6_highest 5 (some .int) ∈ tables_1 := jw_t6 (List.mem_of_getElem? (i := 70) rfl)
theorem jw_86 : Cond.code yX6_putIn cX6_putIn 8 none ∈ tables_1 := jw_t6 (List.mem_of_getElem? (i := 75) rfl)
theorem jw_87 : Cond.code yX6_lay cX6_lay 3 none ∈ tables_1 := jw_t6 (List.mem_of_getElem? (i := 149) rfl)
theorem jw_88 : Cond.code yX6_markAll cX6_markAll 2 none ∈ tables_1 := jw_t6 (List.mem_of_getElem? (i := 155) rfl)
theorem jw_89 : Cond.code yX6_markTold cX6_markTold 6 none ∈ tables_1 := jw_t6 (List.mem_of_getElem? (i := 159) rfl)
theorem jw_90 : Cond.code yX6_markMembers cX6_markMembers 4 none ∈ tables_1 := jw_t6 (List.mem_of_getElem? (i := 163) rfl)
theorem jw_91 : Cond.code yX6_markFace cX6_markFace 3 none ∈ tables_1 := jw_t6 (List.mem_of_getElem? (i := 171) rfl)
theorem jw_92 : Cond.code yX6_markType cX6_markType 2 none ∈ tables_1 := jw_t6 (List.mem_of_getElem? (i := 167) rfl)
theorem jw_93 : Cond.code yX6_number cX6_number 6 none ∈ tables_1 := jw_t6 (List.mem_of_getElem? (i := 175) rfl)
theorem jw_94 : Cond.code yX6_nameMethods cX6_nameMethods 3 none ∈ tables_1 := jw_t6 (List.mem_of_getElem? (i := 179) rfl)
theorem jw_95 : Cond.code yX6_nearestAbove cX6_nearestAbove 5 (some .int) ∈ tables_1 := jw_t6 (List.mem_of_getElem? (i := 183) rfl)
theorem jw_96 : Cond.code yX6_leastFree cX6_leastFree 4 (some .int) ∈ tables_1 := jw_t6 (List.mem_of_getElem? (i := 188) rfl)
theorem jw_97 : Cond.code yX6_isTaken cX6_isTaken 4 (some .boolean) ∈ tables_1 := jw_t6 (List.mem_of_getElem? (i := 192) rfl)
theorem jw_98 : Cond.code yX6_writeClasses cX6_writeClasses 6 none ∈ tables_1 := jw_t6 (List.mem_of_getElem? (i := 197) rfl)
theorem jw_99 : Cond.code yX6_writeFields cX6_writeFields 7 (some .int) ∈ tables_1 := jw_t6 (List.mem_of_getElem? (i := 201) rfl)
theorem jw_100 : Cond.code yX6_typeAnew cX6_typeAnew 2 (some .int) ∈ tables_1 := jw_t6 (List.mem_of_getElem? (i := 205) rfl)
theorem jw_101 : Cond.code yX6_writeFace cX6_writeFace 5 none ∈ tables_1 := jw_t6 (List.mem_of_getElem? (i := 209) rfl)
theorem jw_102 : Cond.code yX6_moveCodes cX6_moveCodes 2 none ∈ tables_1 := jw_t6 (List.mem_of_getElem? (i := 214) rfl)
theorem jw_103 : Cond.code yX6_makeShell cX6_makeShell 3 none ∈ tables_1 := jw_t6 (List.mem_of_getElem? (i := 222) rfl)
theorem jw_104 : Cond.code yX6_moveCode cX6_moveCode 10 none ∈ tables_1 := jw_t6 (List.mem_of_getElem? (i := 218) rfl)
theorem jw_105 : Cond.code yX7_init cX7_init 1 none ∈ tables_1 := jw_t2 (List.mem_of_getElem? (i := 140) rfl)
theorem jw_106 : Cond.code yX7_begin cX7_begin 2 none ∈ tables_1 := jw_t6 (List.mem_of_getElem? (i := 50) rfl)
theorem jw_107 : Cond.code yX7_add cX7_add 6 none ∈ tables_1 := jw_t6 (List.mem_of_getElem? (i := 79) rfl)
theorem jw_108 : Cond.code yX7_aimAnew cX7_aimAnew 3 none ∈ tables_1 := jw_t6 (List.mem_of_getElem? (i := 88) rfl)
theorem jw_109 : Cond.code yX7_fold cX7_fold 5 none ∈ tables_1 := jw_t6 (List.mem_of_getElem? (i := 93) rfl)
theorem jw_110 : Cond.code yX7_firstFit cX7_firstFit 2 (some .int) ∈ tables_1 := jw_t6 (List.mem_of_getElem? (i := 112) rfl)
theorem jw_111 : Cond.code yX7_survey cX7_survey 3 none ∈ tables_1 := jw_t6 (List.mem_of_getElem? (i := 98) rfl)
theorem jw_112 : Cond.code yX7_isPlace cX7_isPlace 2 (some .boolean) ∈ tables_1 := jw_t6 (List.mem_of_getElem? (i := 103) rfl)
theorem jw_113 : Cond.code yX7_meetFirst cX7_meetFirst 2 none ∈ tables_1 := jw_t6 (List.mem_of_getElem? (i := 107) rfl)
theorem jw_114 : Cond.code yX7_ruleAt cX7_ruleAt 4 (some .int) ∈ tables_1 := jw_t6 (List.mem_of_getElem? (i := 116) rfl)
theorem jw_115 : Cond.code yX7_ruleOfInt cX7_ruleOfInt 6 (some .int) ∈ tables_1 := jw_t6 (List.mem_of_getElem? (i := 124) rfl)
theorem jw_116 : Cond.code yX7_lead cX7_lead 4 (some .int) ∈ tables_1 := jw_t6 (List.mem_of_getElem? (i := 120) rfl)
theorem jw_117 : Cond.code yX7_apply cX7_apply 3 none ∈ tables_1 := jw_t6 (List.mem_of_getElem? (i := 128) rfl)
theorem jw_118 : Cond.code yX7_decide cX7_decide 5 none ∈ tables_1 := jw_t6 (List.mem_of_getElem? (i := 145) rfl)
theorem jw_119 : Cond.code yX7_become cX7_become 5 none ∈ tables_1 := jw_t6 (List.mem_of_getElem? (i := 141) rfl)
theorem jw_120 : Cond.code yX7_cut cX7_cut 5 none ∈ tables_1 := jw_t6 (List.mem_of_getElem? (i := 132) rfl)
theorem jw_121 : Cond.code yX8_init cX8_init 1 none ∈ tables_1 := jw_t2 (List.mem_of_getElem? (i := 100) rfl)
theorem jw_122 : Cond.code yX8_write cX8_write 3 none ∈ tables_1 := jw_t6 (List.mem_of_getElem? (i := 226) rfl)
theorem jw_123 : Cond.code yX8_put cX8_put 2 none ∈ tables_1 := jw_t6 (List.mem_of_getElem? (i := 230) rfl)
theorem jw_124 : Cond.code yX8_writeClass cX8_writeClass 4 none ∈ tables_1 := jw_t6 (List.mem_of_getElem? (i := 234) rfl)
theorem jw_125 : Cond.code yX8_writeMethod cX8_writeMethod 5 none ∈ tables_1 := jw_t6 (List.mem_of_getElem? (i := 238) rfl)
theorem jw_126 : Cond.code yX8_writeInstruction cX8_writeInstruction 5 none ∈ tables_1 := jw_t7 (List.mem_of_getElem? (i := 2) rfl)
theorem jw_127 : Cond.code yX9_init cX9_init 1 none ∈ tables_1 := jw_t1 (List.mem_of_getElem? (i := 32) rfl)
theorem jw_128 : Cond.code yX9_feed cX9_feed 6 (some .boolean) ∈ tables_1 := jw_t3 (List.mem_of_getElem? (i := 111) rfl)
theorem jw_129 : Cond.code yX9_addNumber cX9_addNumber 3 none ∈ tables_1 := jw_t3 (List.mem_of_getElem? (i := 115) rfl)
theorem jw_130 : Cond.code yX9_end cX9_end 2 (some .boolean) ∈ tables_1 := jw_t3 (List.mem_of_getElem? (i := 119) rfl)
theorem jw_131 : Cond.code yX9_read cX9_read 4 (some .int) ∈ tables_1 := jw_t3 (List.mem_of_getElem? (i := 123) rfl)
theorem jw_132 : Cond.code yX9_findFault cX9_findFault 6 (some .int) ∈ tables_1 := jw_t3 (List.mem_of_getElem? (i := 127) rfl)
theorem jw_133 : Cond.code yX9_tellFault cX9_tellFault 5 (some .int) ∈ tables_1 := jw_t3 (List.mem_of_getElem? (i := 185) rfl)
theorem jw_134 : Cond.code yX9_fault cX9_fault 2 (some .int) ∈ tables_1 := jw_t5 (List.mem_of_getElem? (i := 136) rfl)
theorem jw_135 : Cond.code yX9_size cX9_size 4 (some .int) ∈ tables_1 := jw_t5 (List.mem_of_getElem? (i := 140) rfl)
theorem jw_136 : Cond.code yX9_method cX9_method 7 (some .int) ∈ tables_1 := jw_t5 (List.mem_of_getElem? (i := 152) rfl)
theorem jw_137 : Cond.code yX9_type cX9_type 5 (some .int) ∈ tables_1 := jw_t5 (List.mem_of_getElem? (i := 157) rfl)
theorem jw_138 : Cond.code yX9_flowOf cX9_flowOf 2 none ∈ tables_1 := jw_t5 (List.mem_of_getElem? (i := 169) rfl)
theorem jw_139 : Cond.code yX9_entry cX9_entry 3 (some .int) ∈ tables_1 := jw_t5 (List.mem_of_getElem? (i := 181) rfl)
theorem jw_140 : Cond.code yX9_shrink cX9_shrink 2 (some .int) ∈ tables_1 := jw_t5 (List.mem_of_getElem? (i := 230) rfl)
theorem jw_141 : Cond.code yX9_out cX9_out 2 (some .int) ∈ tables_1 := jw_t5 (List.mem_of_getElem? (i := 186) rfl)
theorem jw_142 : Cond.code yX9_kept cX9_kept 5 (some .int) ∈ tables_1 := jw_t5 (List.mem_of_getElem? (i := 191) rfl)
theorem jw_143 : Cond.code yX9_made cX9_made 3 (some .int) ∈ tables_1 := jw_t5 (List.mem_of_getElem? (i := 197) rfl)
theorem jw_144 : Cond.code yX9_origin cX9_origin 5 (some .int) ∈ tables_1 := jw_t5 (List.mem_of_getElem? (i := 201) rfl)
theorem jw_145 : Cond.code yX9_run cX9_run 6 (some .int) ∈ tables_1 := jw_t7 (List.mem_of_getElem? (i := 10) rfl)
theorem jw_146 : Cond.code yX9_result cX9_result 2 (some .int) ∈ tables_1 := jw_t5 (List.mem_of_getElem? (i := 205) rfl)
theorem jw_147 : Cond.code yX9_output cX9_output 2 (some .int) ∈ tables_1 := jw_t5 (List.mem_of_getElem? (i := 209) rfl)
theorem jw_148 : Cond.code yX9_trace cX9_trace 2 (some .int) ∈ tables_1 := jw_t5 (List.mem_of_getElem? (i := 213) rfl)
theorem jw_149 : Cond.code yX9_back cX9_back 2 (some .int) ∈ tables_1 := jw_t5 (List.mem_of_getElem? (i := 217) rfl)
theorem jw_150 : Cond.code yX9_again cX9_again 3 (some .boolean) ∈ tables_1 := jw_t5 (List.mem_of_getElem? (i := 221) rfl)
theorem jw_151 : Cond.code yX9_isJump cX9_isJump 1 (some .boolean) ∈ tables_1 := jw_t5 (List.mem_of_getElem? (i := 128) rfl)
theorem jw_152 : Cond.code yX9_goesOn cX9_goesOn 1 (some .boolean) ∈ tables_1 := jw_t5 (List.mem_of_getElem? (i := 113) rfl)
theorem jw_153 : Cond.code yX9_calculate cX9_calculate 3 (some .int) ∈ tables_1 := jw_t6 (List.mem_of_getElem? (i := 137) rfl)
theorem jw_154 : Cond.code yX10_init cX10_init 1 none ∈ tables_1 := jw_t7 (List.mem_of_getElem? (i := 108) rfl)
theorem jw_155 : Cond.code yX10_thrown cX10_thrown 1 (some .int) ∈ tables_1 := jw_t8 (List.mem_of_getElem? (i := 169) rfl)
theorem jw_156 : Cond.code yX10_feed cX10_feed 8 (some .boolean) ∈ tables_1 := jw_t8 (List.mem_of_getElem? (i := 173) rfl)
theorem jw_157 : Cond.code yX10_end cX10_end 2 (some .boolean) ∈ tables_1 := jw_t8 (List.mem_of_getElem? (i := 177) rfl)
theorem jw_158 : Cond.code yX10_wrong cX10_wrong 5 none ∈ tables_1 := jw_t8 (List.mem_of_getElem? (i := 193) rfl)
theorem jw_159 : Cond.code yX10_take cX10_take 4 (some .int) ∈ tables_1 := jw_t8 (List.mem_of_getElem? (i := 189) rfl)
theorem jw_160 : Cond.code yX10_index cX10_index 3 (some .int) ∈ tables_1 := jw_t8 (List.mem_of_getElem? (i := 204) rfl)
theorem jw_161 : Cond.code yX10_readAll cX10_readAll 2 none ∈ tables_1 := jw_t8 (List.mem_of_getElem? (i := 185) rfl)
theorem jw_162 : Cond.code yX10_readClass cX10_readClass 5 none ∈ tables_1 := jw_t8 (List.mem_of_getElem? (i := 197) rfl)
theorem jw_163 : Cond.code yX10_readMethod cX10_readMethod 5 none ∈ tables_1 := jw_t8 (List.mem_of_getElem? (i := 201) rfl)
theorem jw_164 : Cond.code yX10_isJump cX10_isJump 1 (some .boolean) ∈ tables_1 := jw_t8 (List.mem_of_getElem? (i := 211) rfl)
theorem jw_165 : Cond.code yX10_hasTwo cX10_hasTwo 1 (some .boolean) ∈ tables_1 := jw_t8 (List.mem_of_getElem? (i := 214) rfl)
theorem jw_166 : Cond.code yX10_readInstruction cX10_readInstruction 5 none ∈ tables_1 := jw_t8 (List.mem_of_getElem? (i := 208) rfl)
theorem jw_167 : Cond.code yX10_checkTold cX10_checkTold 7 none ∈ tables_1 := jw_t8 (List.mem_of_getElem? (i := 218) rfl)
theorem jw_168 : Cond.code yX10_sameShape cX10_sameShape 5 (some .boolean) ∈ tables_1 := jw_t8 (List.mem_of_getElem? (i := 226) rfl)
theorem jw_169 : Cond.code yX10_checkNames cX10_checkNames 8 none ∈ tables_1 := jw_t8 (List.mem_of_getElem? (i := 222) rfl)
theorem jw_170 : Cond.code yX10_covers cX10_covers 5 (some .boolean) ∈ tables_1 := jw_t9 (List.mem_of_getElem? (i := 5) rfl)
theorem jw_171 : Cond.code yX10_meet cX10_meet 5 (some .int) ∈ tables_1 := jw_t9 (List.mem_of_getElem? (i := 1) rfl)
theorem jw_172 : Cond.code yX10_fits cX10_fits 4 (some .boolean) ∈ tables_1 := jw_t9 (List.mem_of_getElem? (i := 21) rfl)
theorem jw_173 : Cond.code yX10_of cX10_of 1 (some .int) ∈ tables_1 := jw_t8 (List.mem_of_getElem? (i := 233) rfl)
theorem jw_174 : Cond.code yX10_wants cX10_wants 2 none ∈ tables_1 := jw_t9 (List.mem_of_getElem? (i := 17) rfl)
theorem jw_175 : Cond.code yX10_wantAll cX10_wantAll 7 none ∈ tables_1 := jw_t9 (List.mem_of_getElem? (i := 13) rfl)
theorem jw_176 : Cond.code yX10_push cX10_push 2 none ∈ tables_1 := jw_t9 (List.mem_of_getElem? (i := 29) rfl)
theorem jw_177 : Cond.code yX10_give cX10_give 5 none ∈ tables_1 := jw_t9 (List.mem_of_getElem? (i := 25) rfl)
theorem jw_178 : Cond.code yX10_arrive cX10_arrive 10 none ∈ tables_1 := jw_t8 (List.mem_of_getElem? (i := 237) rfl)
theorem jw_179 : Cond.code yX10_look cX10_look 10 none ∈ tables_1 := jw_t9 (List.mem_of_getElem? (i := 9) rfl)
theorem jw_180 : Cond.code yX10_types cX10_types 6 none ∈ tables_1 := jw_t8 (List.mem_of_getElem? (i := 230) rfl)
theorem jw_181 : Cond.code yX10_copyMethod cX10_copyMethod 8 none ∈ tables_1 := jw_t9 (List.mem_of_getElem? (i := 37) rfl)
theorem jw_182 : Cond.code yX10_copyInstruction cX10_copyInstruction 3 none ∈ tables_1 := jw_t9 (List.mem_of_getElem? (i := 41) rfl)
theorem jw_183 : Cond.code yX10_copy cX10_copy 5 none ∈ tables_1 := jw_t9 (List.mem_of_getElem? (i := 33) rfl)
theorem jw_184 : Cond.code yX10_copyState cX10_copyState 3 none ∈ tables_1 := jw_t9 (List.mem_of_getElem? (i := 45) rfl)
theorem jw_185 : Cond.code yX10_read cX10_read 3 (some .int) ∈ tables_1 := jw_t8 (List.mem_of_getElem? (i := 181) rfl)
theorem jw_186 : Cond.code yX10_fault cX10_fault 2 (some .int) ∈ tables_1 := jw_t9 (List.mem_of_getElem? (i := 50) rfl)
theorem jw_187 : Cond.code yX10_isThere cX10_isThere 2 (some .boolean) ∈ tables_1 := jw_t9 (List.mem_of_getElem? (i := 58) rfl)
theorem jw_188 : Cond.code yX10_size cX10_size 6 (some .int) ∈ tables_1 := jw_t9 (List.mem_of_getElem? (i := 54) rfl)
theorem jw_189 : Cond.code yX10_method cX10_method 7 (some .int) ∈ tables_1 := jw_t9 (List.mem_of_getElem? (i := 62) rfl)
theorem jw_190 : Cond.code yX10_type cX10_type 5 (some .int) ∈ tables_1 := jw_t9 (List.mem_of_getElem? (i := 66) rfl)
theorem jw_191 : Cond.code yX10_entry cX10_entry 3 (some .int) ∈ tables_1 := jw_t9 (List.mem_of_getElem? (i := 70) rfl)
theorem jw_192 : Cond.code yX10_find cX10_find 6 (some .int) ∈ tables_1 := jw_t9 (List.mem_of_getElem? (i := 90) rfl)
theorem jw_193 : Cond.code yX10_mark cX10_mark 2 none ∈ tables_1 := jw_t9 (List.mem_of_getElem? (i := 86) rfl)
theorem jw_194 : Cond.code yX10_reach cX10_reach 4 none ∈ tables_1 := jw_t9 (List.mem_of_getElem? (i := 78) rfl)
theorem jw_195 : Cond.code yX10_reachBy cX10_reachBy 4 none ∈ tables_1 := jw_t9 (List.mem_of_getElem? (i := 82) rfl)
theorem jw_196 : Cond.code yX10_bind cX10_bind 8 none ∈ tables_1 := jw_t9 (List.mem_of_getElem? (i := 94) rfl)
theorem jw_197 : Cond.code yX10_isLeaf cX10_isLeaf 6 (some .boolean) ∈ tables_1 := jw_t9 (List.mem_of_getElem? (i := 102) rfl)
theorem jw_198 : Cond.code yX10_lay cX10_lay 8 none ∈ tables_1 := jw_t9 (List.mem_of_getElem? (i := 114) rfl)
theorem jw_199 : Cond.code yX10_putIn cX10_putIn 8 none ∈ tables_1 := jw_t9 (List.mem_of_getElem? (i := 98) rfl)
theorem jw_200 : Cond.code yX10_hasRoom cX10_hasRoom 8 (some .boolean) ∈ tables_1 := jw_t9 (List.mem_of_getElem? (i := 106) rfl)
theorem jw_201 : Cond.code yX10_putLeaf cX10_putLeaf 8 none ∈ tables_1 := jw_t9 (List.mem_of_getElem? (i := 110) rfl)
theorem jw_202 : Cond.code yX10_survey cX10_survey 3 none ∈ tables_1 := jw_t9 (List.mem_of_getElem? (i := 122) rfl)
theorem jw_203 : Cond.code yX10_comeTo cX10_comeTo 2 none ∈ tables_1 := jw_t9 (List.mem_of_getElem? (i := 126) rfl)
theorem jw_204 : Cond.code yX10_alone cX10_alone 4 (some .boolean) ∈ tables_1 := jw_t9 (List.mem_of_getElem? (i := 142) rfl)
theorem jw_205 : Cond.code yX10_is cX10_is 3 (some .boolean) ∈ tables_1 := jw_t9 (List.mem_of_getElem? (i := 134) rfl)
theorem jw_206 : Cond.code yX10_leads cX10_leads 4 (some .int) ∈ tables_1 := jw_t9 (List.mem_of_getElem? (i := 138) rfl)
theorem jw_207 : Cond.code yX10_fitsRule cX10_fitsRule 6 (some .boolean) ∈ tables_1 := jw_t9 (List.mem_of_getElem? (i := 130) rfl)
theorem jw_208 : Cond.code yX10_cut cX10_cut 5 none ∈ tables_1 := jw_t9 (List.mem_of_getElem? (i := 150) rfl)
theorem jw_209 : Cond.code yX10_join cX10_join 6 none ∈ tables_1 := jw_t9 (List.mem_of_getElem? (i := 157) rfl)
theorem jw_210 : Cond.code yX10_worked cX10_worked 3 (some .int) ∈ tables_1 := jw_t9 (List.mem_of_getElem? (i := 153) rfl)
theorem jw_211 : Cond.code yX10_done cX10_done 4 none ∈ tables_1 := jw_t9 (List.mem_of_getElem? (i := 146) rfl)
theorem jw_212 : Cond.code yX10_rules cX10_rules 5 none ∈ tables_1 := jw_t9 (List.mem_of_getElem? (i := 118) rfl)
theorem jw_213 : Cond.code yX10_keepClass cX10_keepClass 3 none ∈ tables_1 := jw_t9 (List.mem_of_getElem? (i := 165) rfl)
theorem jw_214 : Cond.code yX10_keepType cX10_keepType 2 none ∈ tables_1 := jw_t9 (List.mem_of_getElem? (i := 169) rfl)
theorem jw_215 : Cond.code yX10_keep cX10_keep 5 none ∈ tables_1 := jw_t9 (List.mem_of_getElem? (i := 161) rfl)
theorem jw_216 : Cond.code yX10_typeNow cX10_typeNow 2 (some .int) ∈ tables_1 := jw_t9 (List.mem_of_getElem? (i := 177) rfl)
theorem jw_217 : Cond.code yX10_number cX10_number 7 none ∈ tables_1 := jw_t9 (List.mem_of_getElem? (i := 173) rfl)
theorem jw_218 : Cond.code yX10_numberMethod cX10_numberMethod 5 none ∈ tables_1 := jw_t9 (List.mem_of_getElem? (i := 181) rfl)
theorem jw_219 : Cond.code yX10_tellAnew cX10_tellAnew 5 none ∈ tables_1 := jw_t9 (List.mem_of_getElem? (i := 185) rfl)
theorem jw_220 : Cond.code yX10_numberNow cX10_numberNow 2 (some .int) ∈ tables_1 := jw_t9 (List.mem_of_getElem? (i := 193) rfl)
theorem jw_221 : Cond.code yX10_nameMethods cX10_nameMethods 6 none ∈ tables_1 := jw_t9 (List.mem_of_getElem? (i := 189) rfl)
theorem jw_222 : Cond.code yX10_leastName cX10_leastName 7 (some .int) ∈ tables_1 := jw_t9 (List.mem_of_getElem? (i := 197) rfl)
theorem jw_223 : Cond.code yX10_write cX10_write 2 none ∈ tables_1 := jw_t9 (List.mem_of_getElem? (i := 205) rfl)
theorem jw_224 : Cond.code yX10_writeAll cX10_writeAll 3 none ∈ tables_1 := jw_t9 (List.mem_of_getElem? (i := 201) rfl)
theorem jw_225 : Cond.code yX10_writeMethod cX10_writeMethod 7 none ∈ tables_1 := jw_t9 (List.mem_of_getElem? (i := 209) rfl)
theorem jw_226 : Cond.code yX10_shrink cX10_shrink 3 (some .int) ∈ tables_1 := jw_t9 (List.mem_of_getElem? (i := 74) rfl)
theorem jw_227 : Cond.code yX10_out cX10_out 2 (some .int) ∈ tables_1 := jw_t9 (List.mem_of_getElem? (i := 213) rfl)
theorem jw_228 : Cond.code yX10_kept cX10_kept 4 (some .int) ∈ tables_1 := jw_t9 (List.mem_of_getElem? (i := 217) rfl)
theorem jw_229 : Cond.code yX10_made cX10_made 2 (some .int) ∈ tables_1 := jw_t9 (List.mem_of_getElem? (i := 221) rfl)
theorem jw_230 : Cond.code yX10_origin cX10_origin 5 (some .int) ∈ tables_1 := jw_t9 (List.mem_of_getElem? (i := 225) rfl)
theorem jw_231 : Cond.code yX10_top cX10_top 1 (some .int) ∈ tables_1 := jw_t10 (List.mem_of_getElem? (i := 1) rfl)
theorem jw_232 : Cond.code yX10_pop cX10_pop 2 (some .int) ∈ tables_1 := jw_t10 (List.mem_of_getElem? (i := 13) rfl)
theorem jw_233 : Cond.code yX10_pushValue cX10_pushValue 2 none ∈ tables_1 := jw_t10 (List.mem_of_getElem? (i := 17) rfl)
theorem jw_234 : Cond.code yX10_trapped cX10_trapped 2 none ∈ tables_1 := jw_t10 (List.mem_of_getElem? (i := 5) rfl)
theorem jw_235 : Cond.code yX10_call cX10_call 8 none ∈ tables_1 := jw_t9 (List.mem_of_getElem? (i := 237) rfl)
theorem jw_236 : Cond.code yX10_goBack cX10_goBack 3 none ∈ tables_1 := jw_t10 (List.mem_of_getElem? (i := 9) rfl)
theorem jw_237 : Cond.code yX10_step cX10_step 6 none ∈ tables_1 := jw_t9 (List.mem_of_getElem? (i := 233) rfl)
theorem jw_238 : Cond.code yX10_reckon cX10_reckon 4 none ∈ tables_1 := jw_t10 (List.mem_of_getElem? (i := 21) rfl)
theorem jw_239 : Cond.code yX10_reachObject cX10_reachObject 6 none ∈ tables_1 := jw_t10 (List.mem_of_getElem? (i := 25) rfl)
theorem jw_240 : Cond.code yX10_traceBack cX10_traceBack 6 none ∈ tables_1 := jw_t10 (List.mem_of_getElem? (i := 29) rfl)
theorem jw_241 : Cond.code yX10_run cX10_run 5 (some .int) ∈ tables_1 := jw_t9 (List.mem_of_getElem? (i := 229) rfl)
theorem jw_242 : Cond.code yX10_result cX10_result 2 (some .int) ∈ tables_1 := jw_t10 (List.mem_of_getElem? (i := 33) rfl)
theorem jw_243 : Cond.code yX10_output cX10_output 2 (some .int) ∈ tables_1 := jw_t10 (List.mem_of_getElem? (i := 37) rfl)
theorem jw_244 : Cond.code yX10_trace cX10_trace 2 (some .int) ∈ tables_1 := jw_t10 (List.mem_of_getElem? (i := 41) rfl)
theorem jw_245 : Cond.code yX10_back cX10_back 2 (some .int) ∈ tables_1 := jw_t10 (List.mem_of_getElem? (i := 45) rfl)
theorem jw_246 : Cond.code yX10_again cX10_again 2 (some .boolean) ∈ tables_1 := jw_t10 (List.mem_of_getElem? (i := 49) rfl)
theorem jw_247 : Cond.code yJ7_rangeCheck_23922 cJ7_rangeCheck_23922 3 none ∈ tables_1 := jw_t3 (List.mem_of_getElem? (i := 230) rfl)
theorem jw_248 : Cond.code yJ7_fill_53178 cJ7_fill_53178 4 none ∈ tables_1 := jw_t3 (List.mem_of_getElem? (i := 224) rfl)
theorem jw_249 : Cond.code yJ7_fill_fda19 cJ7_fill_fda19 5 none ∈ tables_1 := jw_t3 (List.mem_of_getElem? (i := 227) rfl)
theorem jw_g0 : ∀ y, y < 25 → Cond.code (jm_nm jU (0 + y)) (jm_bt jU (0 + y)) (jm_ml jG (0 + y)) (jm_rt jG (0 + y)) ∈ tables_1
  | 0, _ => jw_0
  | 1, _ => jw_1
  | 2, _ => jw_2
  | 3, _ => jw_3
  | 4, _ => jw_4
  | 5, _ => jw_5
  | 6, _ => jw_6
  | 7, _ => jw_7
  | 8, _ => jw_8
  | 9, _ => jw_9
  | 10, _ => jw_10
  | 11, _ => jw_11
  | 12, _ => jw_12
  | 13, _ => jw_13
  | 14, _ => jw_14
  | 15, _ => jw_15
  | 16, _ => jw_16
  | 17, _ => jw_17
  | 18, _ => jw_18
  | 19, _ => jw_19
  | 20, _ => jw_20
  | 21, _ => jw_21
  | 22, _ => jw_22
  | 23, _ => jw_23
  | 24, _ => jw_24
  | n + 25, h => absurd h (by omega)
theorem jw_g1 : ∀ y, y < 25 → Cond.code (jm_nm jU (25 + y)) (jm_bt jU (25 + y)) (jm_ml jG (25 + y)) (jm_rt jG (25 + y)) ∈ tables_1
  | 0, _ => jw_25
  | 1, _ => jw_26
  | 2, _ => jw_27
  | 3, _ => jw_28
  | 4, _ => jw_29
  | 5, _ => jw_30
  | 6, _ => jw_31
  | 7, _ => jw_32
  | 8, _ => jw_33
  | 9, _ => jw_34
  | 10, _ => jw_35
  | 11, _ => jw_36
  | 12, _ => jw_37
  | 13, _ => jw_38
  | 14, _ => jw_39
  | 15, _ => jw_40
  | 16, _ => jw_41
  | 17, _ => jw_42
  | 18, _ => jw_43
  | 19, _ => jw_44
  | 20, _ => jw_45
  | 21, _ => jw_46
  | 22, _ => jw_47
  | 23, _ => jw_48
  | 24, _ => jw_49
  | n + 25, h => absurd h (by omega)
theorem jw_g2 : ∀ y, y < 25 → Cond.code (jm_nm jU (50 + y)) (jm_bt jU (50 + y)) (jm_ml jG (50 + y)) (jm_rt jG (50 + y)) ∈ tables_1
  | 0, _ => jw_50
  | 1, _ => jw_51
  | 2, _ => jw_52
  | 3, _ => jw_53
  | 4, _ => jw_54
  | 5, _ => jw_55
  | 6, _ => jw_56
  | 7, _ => jw_57
  | 8, _ => jw_58
  | 9, _ => jw_59
  | 10, _ => jw_60
  | 11, _ => jw_61
  | 12, _ => jw_62
  | 13, _ => jw_63
  | 14, _ => jw_64
  | 15, _ => jw_65
  | 16, _ => jw_66
  | 17, _ => jw_67
  | 18, _ => jw_68
  | 19, _ => jw_69
  | 20, _ => jw_70
  | 21, _ => jw_71
  | 22, _ => jw_72
  | 23, _ => jw_73
  | 24, _ => jw_74
  | n + 25, h => absurd h (by omega)
theorem jw_g3 : ∀ y, y < 25 → Cond.code (jm_nm jU (75 + y)) (jm_bt jU (75 + y)) (jm_ml jG (75 + y)) (jm_rt jG (75 + y)) ∈ tables_1
  | 0, _ => jw_75
  | 1, _ => jw_76
  | 2, _ => jw_77
  | 3, _ => jw_78
  | 4, _ => jw_79
  | 5, _ => jw_80
  | 6, _ => jw_81
  | 7, _ => jw_82
  | 8, _ => jw_83
  | 9, _ => jw_84
  | 10, _ => jw_85
  | 11, _ => jw_86
  | 12, _ => jw_87
  | 13, _ => jw_88
  | 14, _ => jw_89
  | 15, _ => jw_90
  | 16, _ => jw_91
  | 17, _ => jw_92
  | 18, _ => jw_93
  | 19, _ => jw_94
  | 20, _ => jw_95
  | 21, _ => jw_96
  | 22, _ => jw_97
  | 23, _ => jw_98
  | 24, _ => jw_99
  | n + 25, h => absurd h (by omega)
theorem jw_g4 : ∀ y, y < 25 → Cond.code (jm_nm jU (100 + y)) (jm_bt jU (100 + y)) (jm_ml jG (100 + y)) (jm_rt jG (100 + y)) ∈ tables_1
  | 0, _ => jw_100
  | 1, _ => jw_101
  | 2, _ => jw_102
  | 3, _ => jw_103
  | 4, _ => jw_104
  | 5, _ => jw_105
  | 6, _ => jw_106
  | 7, _ => jw_107
  | 8, _ => jw_108
  | 9, _ => jw_109
  | 10, _ => jw_110
  | 11, _ => jw_111
  | 12, _ => jw_112
  | 13, _ => jw_113
  | 14, _ => jw_114
  | 15, _ => jw_115
  | 16, _ => jw_116
  | 17, _ => jw_117
  | 18, _ => jw_118
  | 19, _ => jw_119
  | 20, _ => jw_120
  | 21, _ => jw_121
  | 22, _ => jw_122
  | 23, _ => jw_123
  | 24, _ => jw_124
  | n + 25, h => absurd h (by omega)
theorem jw_g5 : ∀ y, y < 25 → Cond.code (jm_nm jU (125 + y)) (jm_bt jU (125 + y)) (jm_ml jG (125 + y)) (jm_rt jG (125 + y)) ∈ tables_1
  | 0, _ => jw_125
  | 1, _ => jw_126
  | 2, _ => jw_127
  | 3, _ => jw_128
  | 4, _ => jw_129
  | 5, _ => jw_130
  | 6, _ => jw_131
  | 7, _ => jw_132
  | 8, _ => jw_133
  | 9, _ => jw_134
  | 10, _ => jw_135
  | 11, _ => jw_136
  | 12, _ => jw_137
  | 13, _ => jw_138
  | 14, _ => jw_139
  | 15, _ => jw_140
  | 16, _ => jw_141
  | 17, _ => jw_142
  | 18, _ => jw_143
  | 19, _ => jw_144
  | 20, _ => jw_145
  | 21, _ => jw_146
  | 22, _ => jw_147
  | 23, _ => jw_148
  | 24, _ => jw_149
  | n + 25, h => absurd h (by omega)
theorem jw_g6 : ∀ y, y < 25 → Cond.code (jm_nm jU (150 + y)) (jm_bt jU (150 + y)) (jm_ml jG (150 + y)) (jm_rt jG (150 + y)) ∈ tables_1
  | 0, _ => jw_150
  | 1, _ => jw_151
  | 2, _ => jw_152
  | 3, _ => jw_153
  | 4, _ => jw_154
  | 5, _ => jw_155
  | 6, _ => jw_156
  | 7, _ => jw_157
  | 8, _ => jw_158
  | 9, _ => jw_159
  | 10, _ => jw_160
  | 11, _ => jw_161
  | 12, _ => jw_162
  | 13, _ => jw_163
  | 14, _ => jw_164
  | 15, _ => jw_165
  | 16, _ => jw_166
  | 17, _ => jw_167
  | 18, _ => jw_168
  | 19, _ => jw_169
  | 20, _ => jw_170
  | 21, _ => jw_171
  | 22, _ => jw_172
  | 23, _ => jw_173
  | 24, _ => jw_174
  | n + 25, h => absurd h (by omega)
theorem jw_g7 : ∀ y, y < 25 → Cond.code (jm_nm jU (175 + y)) (jm_bt jU (175 + y)) (jm_ml jG (175 + y)) (jm_rt jG (175 + y)) ∈ tables_1
  | 0, _ => jw_175
  | 1, _ => jw_176
  | 2, _ => jw_177
  | 3, _ => jw_178
  | 4, _ => jw_179
  | 5, _ => jw_180
  | 6, _ => jw_181
  | 7, _ => jw_182
  | 8, _ => jw_183
  | 9, _ => jw_184
  | 10, _ => jw_185
  | 11, _ => jw_186
  | 12, _ => jw_187
  | 13, _ => jw_188
  | 14, _ => jw_189
  | 15, _ => jw_190
  | 16, _ => jw_191
  | 17, _ => jw_192
  | 18, _ => jw_193
  | 19, _ => jw_194
  | 20, _ => jw_195
  | 21, _ => jw_196
  | 22, _ => jw_197
  | 23, _ => jw_198
  | 24, _ => jw_199
  | n + 25, h => absurd h (by omega)
theorem jw_g8 : ∀ y, y < 25 → Cond.code (jm_nm jU (200 + y)) (jm_bt jU (200 + y)) (jm_ml jG (200 + y)) (jm_rt jG (200 + y)) ∈ tables_1
  | 0, _ => jw_200
  | 1, _ => jw_201
  | 2, _ => jw_202
  | 3, _ => jw_203
  | 4, _ => jw_204
  | 5, _ => jw_205
  | 6, _ => jw_206
  | 7, _ => jw_207
  | 8, _ => jw_208
  | 9, _ => jw_209
  | 10, _ => jw_210
  | 11, _ => jw_211
  | 12, _ => jw_212
  | 13, _ => jw_213
  | 14, _ => jw_214
  | 15, _ => jw_215
  | 16, _ => jw_216
  | 17, _ => jw_217
  | 18, _ => jw_218
  | 19, _ => jw_219
  | 20, _ => jw_220
  | 21, _ => jw_221
  | 22, _ => jw_222
  | 23, _ => jw_223
  | 24, _ => jw_224
  | n + 25, h => absurd h (by omega)
theorem jw_g9 : ∀ y, y < 25 → Cond.code (jm_nm jU (225 + y)) (jm_bt jU (225 + y)) (jm_ml jG (225 + y)) (jm_rt jG (225 + y)) ∈ tables_1
  | 0, _ => jw_225
  | 1, _ => jw_226
  | 2, _ => jw_227
  | 3, _ => jw_228
  | 4, _ => jw_229
  | 5, _ => jw_230
  | 6, _ => jw_231
  | 7, _ => jw_232
  | 8, _ => jw_233
  | 9, _ => jw_234
  | 10, _ => jw_235
  | 11, _ => jw_236
  | 12, _ => jw_237
  | 13, _ => jw_238
  | 14, _ => jw_239
  | 15, _ => jw_240
  | 16, _ => jw_241
  | 17, _ => jw_242
  | 18, _ => jw_243
  | 19, _ => jw_244
  | 20, _ => jw_245
  | 21, _ => jw_246
  | 22, _ => jw_247
  | 23, _ => jw_248
  | 24, _ => jw_249
  | n + 25, h => absurd h (by omega)
theorem jw_all (y : Nat) (h : y < 250) : Cond.code (jm_nm jU y) (jm_bt jU y) (jm_ml jG y) (jm_rt jG y) ∈ tables_1 := by
  by_cases h0 : y < 25
  · have := jw_g0 (y - 0) (by omega)
    rwa [show 0 + (y - 0) = y by omega] at this
  by_cases h25 : y < 50
  · have := jw_g1 (y - 25) (by omega)
    rwa [show 25 + (y - 25) = y by omega] at this
  by_cases h50 : y < 75
  · have := jw_g2 (y - 50) (by omega)
    rwa [show 50 + (y - 50) = y by omega] at this
  by_cases h75 : y < 100
  · have := jw_g3 (y - 75) (by omega)
    rwa [show 75 + (y - 75) = y by omega] at this
  by_cases h100 : y < 125
  · have := jw_g4 (y - 100) (by omega)
    rwa [show 100 + (y - 100) = y by omega] at this
  by_cases h125 : y < 150
  · have := jw_g5 (y - 125) (by omega)
    rwa [show 125 + (y - 125) = y by omega] at this
  by_cases h150 : y < 175
  · have := jw_g6 (y - 150) (by omega)
    rwa [show 150 + (y - 150) = y by omega] at this
  by_cases h175 : y < 200
  · have := jw_g7 (y - 175) (by omega)
    rwa [show 175 + (y - 175) = y by omega] at this
  by_cases h200 : y < 225
  · have := jw_g8 (y - 200) (by omega)
    rwa [show 200 + (y - 200) = y by omega] at this
  by_cases h225 : y < 250
  · have := jw_g9 (y - 225) (by omega)
    rwa [show 225 + (y - 225) = y by omega] at this
  exact absurd h (by omega)
