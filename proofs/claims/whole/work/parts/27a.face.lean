theorem flX10_28 : FL "LehrBelt" 28 10 0 2 := ⟨(RX10, TX10, 11), rfl, inX10, by decide, List.mem_of_getElem? (i := 448) (by decide +kernel), rfl⟩
theorem vlX10_81 : VL "LehrBelt" 81 yX8_hasRoom bX8_hasRoom 2 ((some .boolean)) 1 := ⟨List.mem_of_getElem? (i := 486) (by decide +kernel), List.mem_of_getElem? (i := 487) (by decide +kernel), List.mem_of_getElem? (i := 488) (by decide +kernel), List.mem_of_getElem? (i := 105) (by decide +kernel), List.mem_of_getElem? (i := 489) (by decide +kernel), by decide +kernel, by decide +kernel, by decide +kernel⟩
theorem vlX10_85 : VL "LehrBelt" 85 yX8_append bX8_append 3 (none) 1 := ⟨List.mem_of_getElem? (i := 490) (by decide +kernel), List.mem_of_getElem? (i := 491) (by decide +kernel), List.mem_of_getElem? (i := 492) (by decide +kernel), List.mem_of_getElem? (i := 105) (by decide +kernel), List.mem_of_getElem? (i := 493) (by decide +kernel), by decide +kernel, by decide +kernel, by decide +kernel⟩
theorem flX10_89 : FL "LehrBelt" 89 8 1 0 := ⟨(RX8, TX8, 2), rfl, inX8, by decide, List.mem_of_getElem? (i := 144) (by decide +kernel), rfl⟩
theorem vlX10_93 : VL "LehrBelt" 93 yX8_cutTo bX8_cutTo 2 ((some .boolean)) 1 := ⟨List.mem_of_getElem? (i := 498) (by decide +kernel), List.mem_of_getElem? (i := 499) (by decide +kernel), List.mem_of_getElem? (i := 500) (by decide +kernel), List.mem_of_getElem? (i := 105) (by decide +kernel), List.mem_of_getElem? (i := 501) (by decide +kernel), by decide +kernel, by decide +kernel, by decide +kernel⟩
theorem flX10_44 : FL "LehrBelt" 44 10 2 2 := ⟨(RX10, TX10, 11), rfl, inX10, by decide, List.mem_of_getElem? (i := 450) (by decide +kernel), rfl⟩
theorem vlX10_96 : VL "LehrBelt" 96 yX5_clear bX5_clear 1 (none) 0 := ⟨List.mem_of_getElem? (i := 506) (by decide +kernel), List.mem_of_getElem? (i := 507) (by decide +kernel), List.mem_of_getElem? (i := 508) (by decide +kernel), List.mem_of_getElem? (i := 107) (by decide +kernel), List.mem_of_getElem? (i := 509) (by decide +kernel), by decide +kernel, by decide +kernel, by decide +kernel⟩
theorem flX10_37 : FL "LehrBelt" 37 10 1 2 := ⟨(RX10, TX10, 11), rfl, inX10, by decide, List.mem_of_getElem? (i := 449) (by decide +kernel), rfl⟩
theorem vlX10_99 : VL "LehrBelt" 99 yX6_readInto bX6_readInto 3 (none) 1 := ⟨List.mem_of_getElem? (i := 510) (by decide +kernel), List.mem_of_getElem? (i := 511) (by decide +kernel), List.mem_of_getElem? (i := 512) (by decide +kernel), List.mem_of_getElem? (i := 106) (by decide +kernel), List.mem_of_getElem? (i := 513) (by decide +kernel), by decide +kernel, by decide +kernel, by decide +kernel⟩
theorem flX10_103 : FL "LehrBelt" 103 6 4 0 := ⟨(RX6, TX6, 6), rfl, inX6, by decide, List.mem_of_getElem? (i := 164) (by decide +kernel), rfl⟩
theorem flX10_49 : FL "LehrBelt" 49 10 3 2 := ⟨(RX10, TX10, 11), rfl, inX10, by decide, List.mem_of_getElem? (i := 451) (by decide +kernel), rfl⟩
theorem flX10_106 : FL "LehrBelt" 106 1 0 2 := ⟨(RX1, TX1, 2), rfl, inX1, by decide, List.mem_of_getElem? (i := 313) (by decide +kernel), rfl⟩
theorem vlX10_109 : VL "LehrBelt" 109 yX5_copyFrom bX5_copyFrom 2 (none) 1 := ⟨List.mem_of_getElem? (i := 631) (by decide +kernel), List.mem_of_getElem? (i := 632) (by decide +kernel), List.mem_of_getElem? (i := 633) (by decide +kernel), List.mem_of_getElem? (i := 107) (by decide +kernel), List.mem_of_getElem? (i := 634) (by decide +kernel), by decide +kernel, by decide +kernel, by decide +kernel⟩
theorem flX10_112 : FL "LehrBelt" 112 1 1 2 := ⟨(RX1, TX1, 2), rfl, inX1, by decide, List.mem_of_getElem? (i := 316) (by decide +kernel), rfl⟩
theorem vlX10_116 : VL "LehrBelt" 116 yX0_clear bX0_clear 1 (none) 0 := ⟨List.mem_of_getElem? (i := 638) (by decide +kernel), List.mem_of_getElem? (i := 639) (by decide +kernel), List.mem_of_getElem? (i := 640) (by decide +kernel), List.mem_of_getElem? (i := 109) (by decide +kernel), List.mem_of_getElem? (i := 641) (by decide +kernel), by decide +kernel, by decide +kernel, by decide +kernel⟩
theorem fpX10_77 : FP "LehrBelt" 77 10 10 0 .boolean := ⟨(RX10, TX10, 11), rfl, inX10, by decide, List.mem_of_getElem? (i := 458) (by decide +kernel), rfl, ⟨tyX10, tyX10_ok⟩, nmX10, rfl, by decide +kernel⟩
theorem flX10_119 : FL "LehrBelt" 119 5 0 0 := ⟨(RX5, TX5, 13), rfl, inX5, by decide, List.mem_of_getElem? (i := 188) (by decide +kernel), rfl⟩
theorem flX10_122 : FL "LehrBelt" 122 6 5 0 := ⟨(RX6, TX6, 6), rfl, inX6, by decide, List.mem_of_getElem? (i := 166) (by decide +kernel), rfl⟩
theorem vlX10_125 : VL "LehrBelt" 125 yX5_hasZone bX5_hasZone 2 ((some .boolean)) 1 := ⟨List.mem_of_getElem? (i := 653) (by decide +kernel), List.mem_of_getElem? (i := 654) (by decide +kernel), List.mem_of_getElem? (i := 655) (by decide +kernel), List.mem_of_getElem? (i := 107) (by decide +kernel), List.mem_of_getElem? (i := 656) (by decide +kernel), by decide +kernel, by decide +kernel, by decide +kernel⟩
theorem flX10_128 : FL "LehrBelt" 128 5 8 2 := ⟨(RX5, TX5, 13), rfl, inX5, by decide, List.mem_of_getElem? (i := 226) (by decide +kernel), rfl⟩
theorem vlX10_132 : VL "LehrBelt" 132 yX5_hasPiece bX5_hasPiece 2 ((some .boolean)) 1 := ⟨List.mem_of_getElem? (i := 661) (by decide +kernel), List.mem_of_getElem? (i := 662) (by decide +kernel), List.mem_of_getElem? (i := 663) (by decide +kernel), List.mem_of_getElem? (i := 107) (by decide +kernel), List.mem_of_getElem? (i := 664) (by decide +kernel), by decide +kernel, by decide +kernel, by decide +kernel⟩
theorem flX10_135 : FL "LehrBelt" 135 5 9 2 := ⟨(RX5, TX5, 13), rfl, inX5, by decide, List.mem_of_getElem? (i := 231) (by decide +kernel), rfl⟩
theorem flX10_138 : FL "LehrBelt" 138 5 10 2 := ⟨(RX5, TX5, 13), rfl, inX5, by decide, List.mem_of_getElem? (i := 236) (by decide +kernel), rfl⟩
theorem flX10_141 : FL "LehrBelt" 141 5 11 2 := ⟨(RX5, TX5, 13), rfl, inX5, by decide, List.mem_of_getElem? (i := 241) (by decide +kernel), rfl⟩
theorem flX10_144 : FL "LehrBelt" 144 5 12 2 := ⟨(RX5, TX5, 13), rfl, inX5, by decide, List.mem_of_getElem? (i := 244) (by decide +kernel), rfl⟩
theorem vlX10_147 : VL "LehrBelt" 147 yX5_hasStep bX5_hasStep 2 ((some .boolean)) 1 := ⟨List.mem_of_getElem? (i := 669) (by decide +kernel), List.mem_of_getElem? (i := 670) (by decide +kernel), List.mem_of_getElem? (i := 671) (by decide +kernel), List.mem_of_getElem? (i := 107) (by decide +kernel), List.mem_of_getElem? (i := 672) (by decide +kernel), by decide +kernel, by decide +kernel, by decide +kernel⟩
theorem flX10_150 : FL "LehrBelt" 150 0 1 0 := ⟨(RX0, TX0, 6), rfl, inX0, by decide, List.mem_of_getElem? (i := 290) (by decide +kernel), rfl⟩
theorem vlX10_153 : VL "LehrBelt" 153 yX1_airAt bX1_airAt 6 ((some .int)) 3 := ⟨List.mem_of_getElem? (i := 677) (by decide +kernel), List.mem_of_getElem? (i := 678) (by decide +kernel), List.mem_of_getElem? (i := 679) (by decide +kernel), List.mem_of_getElem? (i := 108) (by decide +kernel), List.mem_of_getElem? (i := 680) (by decide +kernel), by decide +kernel, by decide +kernel, by decide +kernel⟩
theorem vlX10_157 : VL "LehrBelt" 157 yX5_placeAt bX5_placeAt 4 ((some .int)) 2 := ⟨List.mem_of_getElem? (i := 688) (by decide +kernel), List.mem_of_getElem? (i := 689) (by decide +kernel), List.mem_of_getElem? (i := 690) (by decide +kernel), List.mem_of_getElem? (i := 107) (by decide +kernel), List.mem_of_getElem? (i := 691) (by decide +kernel), by decide +kernel, by decide +kernel, by decide +kernel⟩
theorem vlX10_161 : VL "LehrBelt" 161 yX5_piecesAt bX5_piecesAt 5 ((some .int)) 2 := ⟨List.mem_of_getElem? (i := 696) (by decide +kernel), List.mem_of_getElem? (i := 697) (by decide +kernel), List.mem_of_getElem? (i := 698) (by decide +kernel), List.mem_of_getElem? (i := 107) (by decide +kernel), List.mem_of_getElem? (i := 699) (by decide +kernel), by decide +kernel, by decide +kernel, by decide +kernel⟩
theorem vlX10_164 : VL "LehrBelt" 164 yX5_leavingStep bX5_leavingStep 3 ((some .int)) 1 := ⟨List.mem_of_getElem? (i := 709) (by decide +kernel), List.mem_of_getElem? (i := 710) (by decide +kernel), List.mem_of_getElem? (i := 711) (by decide +kernel), List.mem_of_getElem? (i := 107) (by decide +kernel), List.mem_of_getElem? (i := 712) (by decide +kernel), by decide +kernel, by decide +kernel, by decide +kernel⟩
theorem flX10_77 : FL "LehrBelt" 77 10 10 0 := ⟨(RX10, TX10, 11), rfl, inX10, by decide, List.mem_of_getElem? (i := 458) (by decide +kernel), rfl⟩
theorem flX10_58 : FL "LehrBelt" 58 10 4 2 := ⟨(RX10, TX10, 11), rfl, inX10, by decide, List.mem_of_getElem? (i := 452) (by decide +kernel), rfl⟩
theorem flX10_210 : FL "LehrBelt" 210 5 1 0 := ⟨(RX5, TX5, 13), rfl, inX5, by decide, List.mem_of_getElem? (i := 195) (by decide +kernel), rfl⟩
theorem vlX10_462 : VL "LehrBelt" 462 yX2_follow bX2_follow 8 (none) 3 := ⟨List.mem_of_getElem? (i := 726) (by decide +kernel), List.mem_of_getElem? (i := 727) (by decide +kernel), List.mem_of_getElem? (i := 728) (by decide +kernel), List.mem_of_getElem? (i := 110) (by decide +kernel), List.mem_of_getElem? (i := 729) (by decide +kernel), by decide +kernel, by decide +kernel, by decide +kernel⟩
theorem vlX10_171 : VL "LehrBelt" 171 yX10_followedCourse bX10_followedCourse 1 ((some (.object "LehrBelt$Course"))) 0 := ⟨List.mem_of_getElem? (i := 722) (by decide +kernel), List.mem_of_getElem? (i := 724) (by decide +kernel), List.mem_of_getElem? (i := 12) (by decide +kernel), List.mem_of_getElem? (i := 104) (by decide +kernel), List.mem_of_getElem? (i := 725) (by decide +kernel), by decide +kernel, by decide +kernel, by decide +kernel⟩
theorem vlX10_175 : VL "LehrBelt" 175 yX2_valueAt bX2_valueAt 5 ((some .int)) 3 := ⟨List.mem_of_getElem? (i := 757) (by decide +kernel), List.mem_of_getElem? (i := 758) (by decide +kernel), List.mem_of_getElem? (i := 759) (by decide +kernel), List.mem_of_getElem? (i := 110) (by decide +kernel), List.mem_of_getElem? (i := 760) (by decide +kernel), by decide +kernel, by decide +kernel, by decide +kernel⟩
theorem vlX10_168 : VL "LehrBelt" 168 yX10_ofPieceAt bX10_ofPieceAt 4 ((some .int)) 3 := ⟨List.mem_of_getElem? (i := 718) (by decide +kernel), List.mem_of_getElem? (i := 720) (by decide +kernel), List.mem_of_getElem? (i := 11) (by decide +kernel), List.mem_of_getElem? (i := 104) (by decide +kernel), List.mem_of_getElem? (i := 721) (by decide +kernel), by decide +kernel, by decide +kernel, by decide +kernel⟩
theorem vlX10_178 : VL "LehrBelt" 178 yX2_peakOf bX2_peakOf 2 ((some .int)) 1 := ⟨List.mem_of_getElem? (i := 774) (by decide +kernel), List.mem_of_getElem? (i := 775) (by decide +kernel), List.mem_of_getElem? (i := 776) (by decide +kernel), List.mem_of_getElem? (i := 110) (by decide +kernel), List.mem_of_getElem? (i := 777) (by decide +kernel), by decide +kernel, by decide +kernel, by decide +kernel⟩
theorem vlX10_181 : VL "LehrBelt" 181 yX2_peakStepOf bX2_peakStepOf 4 ((some .int)) 1 := ⟨List.mem_of_getElem? (i := 791) (by decide +kernel), List.mem_of_getElem? (i := 779) (by decide +kernel), List.mem_of_getElem? (i := 780) (by decide +kernel), List.mem_of_getElem? (i := 110) (by decide +kernel), List.mem_of_getElem? (i := 781) (by decide +kernel), by decide +kernel, by decide +kernel, by decide +kernel⟩
theorem flX10_184 : FL "LehrBelt" 184 2 8 2 := ⟨(RX2, TX2, 10), rfl, inX2, by decide, List.mem_of_getElem? (i := 340) (by decide +kernel), rfl⟩
theorem flX10_187 : FL "LehrBelt" 187 2 9 2 := ⟨(RX2, TX2, 10), rfl, inX2, by decide, List.mem_of_getElem? (i := 342) (by decide +kernel), rfl⟩
theorem flX10_190 : FL "LehrBelt" 190 2 6 2 := ⟨(RX2, TX2, 10), rfl, inX2, by decide, List.mem_of_getElem? (i := 335) (by decide +kernel), rfl⟩
theorem flX10_193 : FL "LehrBelt" 193 2 7 2 := ⟨(RX2, TX2, 10), rfl, inX2, by decide, List.mem_of_getElem? (i := 337) (by decide +kernel), rfl⟩
theorem vlX10_196 : VL "LehrBelt" 196 yX5_comeBy bX5_comeBy 4 ((some .int)) 1 := ⟨List.mem_of_getElem? (i := 812) (by decide +kernel), List.mem_of_getElem? (i := 813) (by decide +kernel), List.mem_of_getElem? (i := 814) (by decide +kernel), List.mem_of_getElem? (i := 107) (by decide +kernel), List.mem_of_getElem? (i := 815) (by decide +kernel), by decide +kernel, by decide +kernel, by decide +kernel⟩
theorem vlX10_199 : VL "LehrBelt" 199 yX2_uncrackedAt bX2_uncrackedAt 4 ((some .int)) 1 := ⟨List.mem_of_getElem? (i := 820) (by decide +kernel), List.mem_of_getElem? (i := 821) (by decide +kernel), List.mem_of_getElem? (i := 822) (by decide +kernel), List.mem_of_getElem? (i := 110) (by decide +kernel), List.mem_of_getElem? (i := 823) (by decide +kernel), by decide +kernel, by decide +kernel, by decide +kernel⟩
theorem vlX10_202 : VL "LehrBelt" 202 yX5_isTold bX5_isTold 1 ((some .boolean)) 0 := ⟨List.mem_of_getElem? (i := 828) (by decide +kernel), List.mem_of_getElem? (i := 674) (by decide +kernel), List.mem_of_getElem? (i := 675) (by decide +kernel), List.mem_of_getElem? (i := 107) (by decide +kernel), List.mem_of_getElem? (i := 676) (by decide +kernel), by decide +kernel, by decide +kernel, by decide +kernel⟩
theorem vlX10_206 : VL "LehrBelt" 206 yX2_neverCracked bX2_neverCracked 1 ((some .int)) 0 := ⟨List.mem_of_getElem? (i := 829) (by decide +kernel), List.mem_of_getElem? (i := 830) (by decide +kernel), List.mem_of_getElem? (i := 831) (by decide +kernel), List.mem_of_getElem? (i := 110) (by decide +kernel), List.mem_of_getElem? (i := 832) (by decide +kernel), by decide +kernel, by decide +kernel, by decide +kernel⟩
theorem vlX10_213 : VL "LehrBelt" 213 yX2_mostOf bX2_mostOf 5 ((some .int)) 2 := ⟨List.mem_of_getElem? (i := 842) (by decide +kernel), List.mem_of_getElem? (i := 843) (by decide +kernel), List.mem_of_getElem? (i := 844) (by decide +kernel), List.mem_of_getElem? (i := 110) (by decide +kernel), List.mem_of_getElem? (i := 845) (by decide +kernel), by decide +kernel, by decide +kernel, by decide +kernel⟩
theorem vlX10_216 : VL "LehrBelt" 216 yX2_skinsTogether bX2_skinsTogether 4 ((some .int)) 1 := ⟨List.mem_of_getElem? (i := 855) (by decide +kernel), List.mem_of_getElem? (i := 856) (by decide +kernel), List.mem_of_getElem? (i := 857) (by decide +kernel), List.mem_of_getElem? (i := 110) (by decide +kernel), List.mem_of_getElem? (i := 858) (by decide +kernel), by decide +kernel, by decide +kernel, by decide +kernel⟩
theorem vlX10_219 : VL "LehrBelt" 219 yX2_worstStep bX2_worstStep 5 ((some .int)) 0 := ⟨List.mem_of_getElem? (i := 867) (by decide +kernel), List.mem_of_getElem? (i := 868) (by decide +kernel), List.mem_of_getElem? (i := 869) (by decide +kernel), List.mem_of_getElem? (i := 110) (by decide +kernel), List.mem_of_getElem? (i := 870) (by decide +kernel), by decide +kernel, by decide +kernel, by decide +kernel⟩
theorem vlX10_222 : VL "LehrBelt" 222 yX2_sorestZone bX2_sorestZone 5 ((some .int)) 0 := ⟨List.mem_of_getElem? (i := 885) (by decide +kernel), List.mem_of_getElem? (i := 886) (by decide +kernel), List.mem_of_getElem? (i := 887) (by decide +kernel), List.mem_of_getElem? (i := 110) (by decide +kernel), List.mem_of_getElem? (i := 888) (by decide +kernel), by decide +kernel, by decide +kernel, by decide +kernel⟩
theorem vlX10_225 : VL "LehrBelt" 225 yX2_tenseSteps bX2_tenseSteps 4 ((some .int)) 1 := ⟨List.mem_of_getElem? (i := 897) (by decide +kernel), List.mem_of_getElem? (i := 898) (by decide +kernel), List.mem_of_getElem? (i := 899) (by decide +kernel), List.mem_of_getElem? (i := 110) (by decide +kernel), List.mem_of_getElem? (i := 900) (by decide +kernel), by decide +kernel, by decide +kernel, by decide +kernel⟩
theorem vlX10_228 : VL "LehrBelt" 228 yX2_warmingSteps bX2_warmingSteps 4 ((some .int)) 1 := ⟨List.mem_of_getElem? (i := 905) (by decide +kernel), List.mem_of_getElem? (i := 906) (by decide +kernel), List.mem_of_getElem? (i := 907) (by decide +kernel), List.mem_of_getElem? (i := 110) (by decide +kernel), List.mem_of_getElem? (i := 908) (by decide +kernel), by decide +kernel, by decide +kernel, by decide +kernel⟩
theorem vlX10_231 : VL "LehrBelt" 231 yX2_firstStepAtMost bX2_firstStepAtMost 4 ((some .int)) 2 := ⟨List.mem_of_getElem? (i := 917) (by decide +kernel), List.mem_of_getElem? (i := 918) (by decide +kernel), List.mem_of_getElem? (i := 919) (by decide +kernel), List.mem_of_getElem? (i := 110) (by decide +kernel), List.mem_of_getElem? (i := 920) (by decide +kernel), by decide +kernel, by decide +kernel, by decide +kernel⟩
theorem vlX10_234 : VL "LehrBelt" 234 yX2_stillFrom bX2_stillFrom 3 ((some .int)) 1 := ⟨List.mem_of_getElem? (i := 925) (by decide +kernel), List.mem_of_getElem? (i := 926) (by decide +kernel), List.mem_of_getElem? (i := 927) (by decide +kernel), List.mem_of_getElem? (i := 110) (by decide +kernel), List.mem_of_getElem? (i := 928) (by decide +kernel), by decide +kernel, by decide +kernel, by decide +kernel⟩
theorem flX10_237 : FL "LehrBelt" 237 5 6 0 := ⟨(RX5, TX5, 13), rfl, inX5, by decide, List.mem_of_getElem? (i := 217) (by decide +kernel), rfl⟩
theorem slX10_240 : SL "LehrBelt" 240 yJ6_bitCount_0f7a4 bJ6_bitCount_0f7a4 1 ((some .int)) 1 := ⟨List.mem_of_getElem? (i := 933) (by decide +kernel), List.mem_of_getElem? (i := 876) (by decide +kernel), List.mem_of_getElem? (i := 123) (by decide +kernel), List.mem_of_getElem? (i := 877) (by decide +kernel), by decide +kernel, by decide +kernel, by decide +kernel⟩
theorem mlX10_245 : ML "LehrBelt" 245 Lib.Math.max.name Lib.Math.max.code 2 (some .int) := ⟨List.mem_of_getElem? (i := 938) (by decide +kernel), List.mem_of_getElem? (i := 682) (by decide +kernel), List.mem_of_getElem? (i := 120) (by decide +kernel), List.mem_of_getElem? (i := 683) (by decide +kernel)⟩
theorem vlX10_250 : VL "LehrBelt" 250 yX10_airNow bX10_airNow 3 ((some .int)) 2 := ⟨List.mem_of_getElem? (i := 943) (by decide +kernel), List.mem_of_getElem? (i := 945) (by decide +kernel), List.mem_of_getElem? (i := 19) (by decide +kernel), List.mem_of_getElem? (i := 104) (by decide +kernel), List.mem_of_getElem? (i := 946) (by decide +kernel), by decide +kernel, by decide +kernel, by decide +kernel⟩
theorem vlX10_253 : VL "LehrBelt" 253 yX10_airFall bX10_airFall 3 ((some .int)) 2 := ⟨List.mem_of_getElem? (i := 951) (by decide +kernel), List.mem_of_getElem? (i := 953) (by decide +kernel), List.mem_of_getElem? (i := 20) (by decide +kernel), List.mem_of_getElem? (i := 104) (by decide +kernel), List.mem_of_getElem? (i := 954) (by decide +kernel), by decide +kernel, by decide +kernel, by decide +kernel⟩
theorem vlX10_256 : VL "LehrBelt" 256 yX2_leastSkin bX2_leastSkin 5 ((some .int)) 1 := ⟨List.mem_of_getElem? (i := 963) (by decide +kernel), List.mem_of_getElem? (i := 964) (by decide +kernel), List.mem_of_getElem? (i := 965) (by decide +kernel), List.mem_of_getElem? (i := 110) (by decide +kernel), List.mem_of_getElem? (i := 966) (by decide +kernel), by decide +kernel, by decide +kernel, by decide +kernel⟩
theorem vlX10_259 : VL "LehrBelt" 259 yX2_chillStep bX2_chillStep 5 ((some .int)) 1 := ⟨List.mem_of_getElem? (i := 971) (by decide +kernel), List.mem_of_getElem? (i := 972) (by decide +kernel), List.mem_of_getElem? (i := 973) (by decide +kernel), List.mem_of_getElem? (i := 110) (by decide +kernel), List.mem_of_getElem? (i := 974) (by decide +kernel), by decide +kernel, by decide +kernel, by decide +kernel⟩
theorem kcX10_265 : Cond.constant "LehrBelt" 265 (-100000) ∈ lw_tbl := List.mem_of_getElem? (i := 984) (by decide +kernel)
theorem vlX10_262 : VL "LehrBelt" 262 yX5_hasStepAhead bX5_hasStepAhead 2 ((some .boolean)) 1 := ⟨List.mem_of_getElem? (i := 979) (by decide +kernel), List.mem_of_getElem? (i := 980) (by decide +kernel), List.mem_of_getElem? (i := 981) (by decide +kernel), List.mem_of_getElem? (i := 107) (by decide +kernel), List.mem_of_getElem? (i := 982) (by decide +kernel), by decide +kernel, by decide +kernel, by decide +kernel⟩
theorem vlX10_266 : VL "LehrBelt" 266 yX2_skinFall bX2_skinFall 3 ((some .int)) 2 := ⟨List.mem_of_getElem? (i := 985) (by decide +kernel), List.mem_of_getElem? (i := 910) (by decide +kernel), List.mem_of_getElem? (i := 911) (by decide +kernel), List.mem_of_getElem? (i := 110) (by decide +kernel), List.mem_of_getElem? (i := 912) (by decide +kernel), by decide +kernel, by decide +kernel, by decide +kernel⟩
theorem vlX10_269 : VL "LehrBelt" 269 yX2_strainedSteps bX2_strainedSteps 4 ((some .int)) 1 := ⟨List.mem_of_getElem? (i := 990) (by decide +kernel), List.mem_of_getElem? (i := 991) (by decide +kernel), List.mem_of_getElem? (i := 992) (by decide +kernel), List.mem_of_getElem? (i := 110) (by decide +kernel), List.mem_of_getElem? (i := 993) (by decide +kernel), by decide +kernel, by decide +kernel, by decide +kernel⟩
theorem vlX10_272 : VL "LehrBelt" 272 yX2_skinSpread bX2_skinSpread 5 ((some .int)) 1 := ⟨List.mem_of_getElem? (i := 998) (by decide +kernel), List.mem_of_getElem? (i := 999) (by decide +kernel), List.mem_of_getElem? (i := 1000) (by decide +kernel), List.mem_of_getElem? (i := 110) (by decide +kernel), List.mem_of_getElem? (i := 1001) (by decide +kernel), by decide +kernel, by decide +kernel, by decide +kernel⟩
theorem vlX10_275 : VL "LehrBelt" 275 yX5_comingAt bX5_comingAt 2 ((some .int)) 1 := ⟨List.mem_of_getElem? (i := 1007) (by decide +kernel), List.mem_of_getElem? (i := 1008) (by decide +kernel), List.mem_of_getElem? (i := 1009) (by decide +kernel), List.mem_of_getElem? (i := 107) (by decide +kernel), List.mem_of_getElem? (i := 1010) (by decide +kernel), by decide +kernel, by decide +kernel, by decide +kernel⟩
theorem vlX10_278 : VL "LehrBelt" 278 yX2_crackingAt bX2_crackingAt 2 ((some .int)) 1 := ⟨List.mem_of_getElem? (i := 1016) (by decide +kernel), List.mem_of_getElem? (i := 872) (by decide +kernel), List.mem_of_getElem? (i := 873) (by decide +kernel), List.mem_of_getElem? (i := 110) (by decide +kernel), List.mem_of_getElem? (i := 874) (by decide +kernel), by decide +kernel, by decide +kernel, by decide +kernel⟩
theorem vlX10_281 : VL "LehrBelt" 281 yX2_countOfReason bX2_countOfReason 4 ((some .int)) 1 := ⟨List.mem_of_getElem? (i := 1025) (by decide +kernel), List.mem_of_getElem? (i := 1026) (by decide +kernel), List.mem_of_getElem? (i := 1027) (by decide +kernel), List.mem_of_getElem? (i := 110) (by decide +kernel), List.mem_of_getElem? (i := 1028) (by decide +kernel), by decide +kernel, by decide +kernel, by decide +kernel⟩
theorem vlX10_284 : VL "LehrBelt" 284 yX5_busySteps bX5_busySteps 4 ((some .int)) 1 := ⟨List.mem_of_getElem? (i := 1037) (by decide +kernel), List.mem_of_getElem? (i := 1038) (by decide +kernel), List.mem_of_getElem? (i := 1039) (by decide +kernel), List.mem_of_getElem? (i := 107) (by decide +kernel), List.mem_of_getElem? (i := 1040) (by decide +kernel), by decide +kernel, by decide +kernel, by decide +kernel⟩
theorem vlX10_287 : VL "LehrBelt" 287 yX2_stiffAt bX2_stiffAt 4 ((some .int)) 1 := ⟨List.mem_of_getElem? (i := 1050) (by decide +kernel), List.mem_of_getElem? (i := 1051) (by decide +kernel), List.mem_of_getElem? (i := 1052) (by decide +kernel), List.mem_of_getElem? (i := 110) (by decide +kernel), List.mem_of_getElem? (i := 1053) (by decide +kernel), by decide +kernel, by decide +kernel, by decide +kernel⟩
theorem flX10_65 : FL "LehrBelt" 65 10 5 2 := ⟨(RX10, TX10, 11), rfl, inX10, by decide, List.mem_of_getElem? (i := 453) (by decide +kernel), rfl⟩
theorem vlX10_290 : VL "LehrBelt" 290 yX9_strengthFor bX9_strengthFor 3 ((some .int)) 1 := ⟨List.mem_of_getElem? (i := 1058) (by decide +kernel), List.mem_of_getElem? (i := 1059) (by decide +kernel), List.mem_of_getElem? (i := 1060) (by decide +kernel), List.mem_of_getElem? (i := 111) (by decide +kernel), List.mem_of_getElem? (i := 1061) (by decide +kernel), by decide +kernel, by decide +kernel, by decide +kernel⟩
set_option maxRecDepth 100000 in
set_option maxHeartbeats 4000000 in
theorem c_X10_feed {l : Launch} {P : Wp} {E : State → Heap → Prop} (hW : Wok shC P E) {p1 : Int32} {p2 : Int32} {p3 : Int32} {p4 : Int32} {p5 : Int32} {M : Mem} {r : Int32} {M' : Mem} (h : f_X10_feed p1 p2 p3 p4 p5 M = some (r, M')) : CT l shC P E yX10_feed bX10_feed 6 ((some .int)) 1 22 [.ref (P.2.2.1 0), .int p1, .int p2, .int p3, .int p4, .int p5] (some (.int r)) M M' := by
  refine ct_of hW (by decide) (Nat.le_of_ble_eq_true rfl) (fun p e s m args below meth c C ls hl hw => ?_)
  have hx := C.1
  have hb := C.2.1
  replace hl : lv_has ls 6 [(0, .ref (P.2.2.1 0)), (1, .int p1), (2, .int p2), (3, .int p3), (4, .int p4), (5, .int p5)] := hl
  refine lv_aload_n hx hb dX10_feed_0 rfl (lv_at hl 0 rfl) ?_
  refine wgetR (t := 4) C hw flX10_28 (rfl : _ = some (0, 10)) rfl dX10_feed_1 ?_
  refine lv_bipush (v := 20) hx hb dX10_feed_4 (by decide) ?_
  refine wcallV1 (As := [.int 20]) (rest := []) C hw (c_X8_hasRoom hW  rfl) vlX10_81 ⟨Nat.le_of_ble_eq_true rfl, Nat.le_of_ble_eq_true rfl⟩ (rfl : _ = some (0, 8)) rfl rfl rfl hl.1 (Nat.le_of_ble_eq_true rfl) dX10_feed_6 ⟨Nat.zero_le _, Nat.zero_le _⟩ (fun H locs hw => ?_)
  refine lv_if_ne (tgt := 14) hx hb dX10_feed_9 (by decide) (fun c1 => ?_) (fun c1 => ?_)
  · replace h := (if_neg c1).symm.trans h
    refine lv_aload_n hx hb dX10_feed_14 rfl (lv_at hl 0 rfl) ?_
    refine wgetR (t := 4) C hw flX10_28 (rfl : _ = some (0, 10)) rfl dX10_feed_15 ?_
    refine lv_iload_n hx hb dX10_feed_18 rfl (lv_at hl 1 rfl) ?_
    obtain ⟨M4, e3, h⟩ := bnd_some h
    refine wcallV0 (As := [.int p1]) (rest := []) C hw (c_X8_append hW  e3) vlX10_85 ⟨Nat.le_of_ble_eq_true rfl, Nat.le_of_ble_eq_true rfl⟩ (rfl : _ = some (0, 8)) rfl rfl rfl hl.1 (Nat.le_of_ble_eq_true rfl) dX10_feed_19 ⟨Nat.zero_le _, Nat.zero_le _⟩ (fun H locs hw => ?_)
    refine lv_aload_n hx hb dX10_feed_22 rfl (lv_at hl 0 rfl) ?_
    refine wgetR (t := 4) C hw flX10_28 (rfl : _ = some (0, 10)) rfl dX10_feed_23 ?_
    refine lv_iload_n hx hb dX10_feed_26 rfl (lv_at hl 2 rfl) ?_
    obtain ⟨M7, e6, h⟩ := bnd_some h
    refine wcallV0 (As := [.int p2]) (rest := []) C hw (c_X8_append hW  e6) vlX10_85 ⟨Nat.le_of_ble_eq_true rfl, Nat.le_of_ble_eq_true rfl⟩ (rfl : _ = some (0, 8)) rfl rfl rfl hl.1 (Nat.le_of_ble_eq_true rfl) dX10_feed_27 ⟨Nat.zero_le _, Nat.zero_le _⟩ (fun H locs hw => ?_)
    refine lv_aload_n hx hb dX10_feed_30 rfl (lv_at hl 0 rfl) ?_
    refine wgetR (t := 4) C hw flX10_28 (rfl : _ = some (0, 10)) rfl dX10_feed_31 ?_
    refine lv_iload_n hx hb dX10_feed_34 rfl (lv_at hl 3 rfl) ?_
    obtain ⟨M10, e9, h⟩ := bnd_some h
    refine wcallV0 (As := [.int p3]) (rest := []) C hw (c_X8_append hW  e9) vlX10_85 ⟨Nat.le_of_ble_eq_true rfl, Nat.le_of_ble_eq_true rfl⟩ (rfl : _ = some (0, 8)) rfl rfl rfl hl.1 (Nat.le_of_ble_eq_true rfl) dX10_feed_35 ⟨Nat.zero_le _, Nat.zero_le _⟩ (fun H locs hw => ?_)
    refine lv_aload_n hx hb dX10_feed_38 rfl (lv_at hl 0 rfl) ?_
    refine wgetR (t := 4) C hw flX10_28 (rfl : _ = some (0, 10)) rfl dX10_feed_39 ?_
    refine lv_iload hx hb dX10_feed_42 (lv_at hl 4 rfl) ?_
    obtain ⟨M13, e12, h⟩ := bnd_some h
    refine wcallV0 (As := [.int p4]) (rest := []) C hw (c_X8_append hW  e12) vlX10_85 ⟨Nat.le_of_ble_eq_true rfl, Nat.le_of_ble_eq_true rfl⟩ (rfl : _ = some (0, 8)) rfl rfl rfl hl.1 (Nat.le_of_ble_eq_true rfl) dX10_feed_44 ⟨Nat.zero_le _, Nat.zero_le _⟩ (fun H locs hw => ?_)
    refine lv_aload_n hx hb dX10_feed_47 rfl (lv_at hl 0 rfl) ?_
    refine wgetR (t := 4) C hw flX10_28 (rfl : _ = some (0, 10)) rfl dX10_feed_48 ?_
    refine lv_iload hx hb dX10_feed_51 (lv_at hl 5 rfl) ?_
    obtain ⟨M16, e15, h⟩ := bnd_some h
    refine wcallV0 (As := [.int p5]) (rest := []) C hw (c_X8_append hW  e15) vlX10_85 ⟨Nat.le_of_ble_eq_true rfl, Nat.le_of_ble_eq_true rfl⟩ (rfl : _ = some (0, 8)) rfl rfl rfl hl.1 (Nat.le_of_ble_eq_true rfl) dX10_feed_53 ⟨Nat.zero_le _, Nat.zero_le _⟩ (fun H locs hw => ?_)
    refine lv_aload_n hx hb dX10_feed_56 rfl (lv_at hl 0 rfl) ?_
    refine wgetR (t := 4) C hw flX10_28 (rfl : _ = some (0, 10)) rfl dX10_feed_57 ?_
    refine wgetI C hw flX10_89 (rfl : _ = some (0, 8)) dX10_feed_60 ?_
    exact wretI_W C hw h dX10_feed_63
  · replace h := (if_pos c1).symm.trans h
    refine lv_iconst (v := (-1)) hx hb dX10_feed_12 (by decide) ?_
    exact wretI_W C hw h dX10_feed_13
set_option maxRecDepth 100000 in
set_option maxHeartbeats 4000000 in
theorem c_X10_end {l : Launch} {P : Wp} {E : State → Heap → Prop} (hW : Wok shC P E) {p1 : Int32} {M : Mem} {r : Int32} {M' : Mem} (h : f_X10_end p1 M = some (r, M')) : CT l shC P E yX10_end bX10_end 2 ((some .int)) 1 21 [.ref (P.2.2.1 0), .int p1] (some (.int r)) M M' := by
  refine ct_of hW (by decide) (Nat.le_of_ble_eq_true rfl) (fun p e s m args below meth c C ls hl hw => ?_)
  have hx := C.1
  have hb := C.2.1
  replace hl : lv_has ls 2 [(0, .ref (P.2.2.1 0)), (1, .int p1)] := hl
  refine lv_aload_n hx hb dX10_end_0 rfl (lv_at hl 0 rfl) ?_
  refine wgetR (t := 4) C hw flX10_28 (rfl : _ = some (0, 10)) rfl dX10_end_1 ?_
  refine lv_iload_n hx hb dX10_end_4 rfl (lv_at hl 1 rfl) ?_
  obtain ⟨r1, M3, e2, h⟩ := bnd2_some h
  refine wcallV1 (As := [.int p1]) (rest := []) C hw (c_X8_cutTo hW  e2) vlX10_93 ⟨Nat.le_of_ble_eq_true rfl, Nat.le_of_ble_eq_true rfl⟩ (rfl : _ = some (0, 8)) rfl rfl rfl hl.1 (Nat.le_of_ble_eq_true rfl) dX10_end_5 ⟨Nat.zero_le _, Nat.zero_le _⟩ (fun H locs hw => ?_)
  refine lv_if_eq (tgt := 15) hx hb dX10_end_8 (by decide) (fun c4 => ?_) (fun c4 => ?_)
  · replace h := (if_pos c4).symm.trans h
    refine lv_iconst (v := (-1)) hx hb dX10_end_15 (by decide) ?_
    exact wretI_W C hw h dX10_end_16
  · replace h := (if_neg c4).symm.trans h
    refine lv_iload_n hx hb dX10_end_11 rfl (lv_at hl 1 rfl) ?_
    refine lv_goto (tgt := 16) hx hb dX10_end_12 (by decide) ?_
    exact wretI_W C hw h dX10_end_16
set_option maxRecDepth 100000 in
set_option maxHeartbeats 4000000 in
theorem c_X10_lehr {l : Launch} {P : Wp} {E : State → Heap → Prop} (hW : Wok shC P E) {M : Mem} {r : Int32} {M' : Mem} (h : f_X10_lehr M = some (r, M')) : CT l shC P E yX10_lehr bX10_lehr 1 ((some .int)) 10 217 [.ref (P.2.2.1 0)] (some (.int r)) M M' := by
  refine ct_of hW (by decide) (Nat.le_of_ble_eq_true rfl) (fun p e s m args below meth c C ls hl hw => ?_)
  have hx := C.1
  have hb := C.2.1
  replace hl : lv_has ls 1 [(0, .ref (P.2.2.1 0))] := hl
  refine lv_aload_n hx hb dX10_lehr_0 rfl (lv_at hl 0 rfl) ?_
  refine wgetR (t := 7) C hw flX10_44 (rfl : _ = some (0, 10)) rfl dX10_lehr_1 ?_
  obtain ⟨M3, e2, h⟩ := bnd_some h
  refine wcallV0 (As := []) (rest := []) C hw (c_X5_clear hW (rfl : _ = some (0, 5)) e2) vlX10_96 ⟨Nat.le_of_ble_eq_true rfl, Nat.le_of_ble_eq_true rfl⟩ (rfl : _ = some (0, 5)) rfl rfl rfl hl.1 (Nat.le_of_ble_eq_true rfl) dX10_lehr_4 ⟨Nat.zero_le _, Nat.zero_le _⟩ (fun H locs hw => ?_)
  refine lv_aload_n hx hb dX10_lehr_7 rfl (lv_at hl 0 rfl) ?_
  refine wgetR (t := 6) C hw flX10_37 (rfl : _ = some (0, 10)) rfl dX10_lehr_8 ?_
  refine lv_aload_n hx hb dX10_lehr_11 rfl (lv_at hl 0 rfl) ?_
  refine wgetR (t := 7) C hw flX10_44 (rfl : _ = some (0, 10)) rfl dX10_lehr_12 ?_
  obtain ⟨M6, e5, h⟩ := bnd_some h
  refine wcallV0 (As := [.ref (P.2.2.1 7)]) (rest := []) C hw (c_X6_readInto hW (rfl : _ = some (0, 5)) e5) vlX10_99 ⟨Nat.le_of_ble_eq_true rfl, Nat.le_of_ble_eq_true rfl⟩ (rfl : _ = some (0, 6)) rfl rfl rfl hl.1 (Nat.le_of_ble_eq_true rfl) dX10_lehr_15 ⟨Nat.zero_le _, Nat.zero_le _⟩ (fun H locs hw => ?_)
  refine lv_aload_n hx hb dX10_lehr_18 rfl (lv_at hl 0 rfl) ?_
  refine wgetR (t := 4) C hw flX10_28 (rfl : _ = some (0, 10)) rfl dX10_lehr_19 ?_
  refine lv_iconst (v := 0) hx hb dX10_lehr_22 (by decide) ?_
  obtain ⟨r7, M9, e8, h⟩ := bnd2_some h
  refine wcallV1 (As := [.int 0]) (rest := []) C hw (c_X8_cutTo hW  e8) vlX10_93 ⟨Nat.le_of_ble_eq_true rfl, Nat.le_of_ble_eq_true rfl⟩ (rfl : _ = some (0, 8)) rfl rfl rfl hl.1 (Nat.le_of_ble_eq_true rfl) dX10_lehr_23 ⟨Nat.zero_le _, Nat.zero_le _⟩ (fun H locs hw => ?_)
  refine lv_pop hx hb dX10_lehr_26 rfl ?_
  refine lv_aload_n hx hb dX10_lehr_27 rfl (lv_at hl 0 rfl) ?_
  refine wgetR (t := 6) C hw flX10_37 (rfl : _ = some (0, 10)) rfl dX10_lehr_28 ?_
  refine wgetI C hw flX10_103 (rfl : _ = some (0, 6)) dX10_lehr_31 ?_
  refine lv_if_eq (tgt := 40) hx hb dX10_lehr_34 (by decide) (fun c10 => ?_) (fun c10 => ?_)
  · replace h := (if_pos c10).symm.trans h
    refine lv_aload_n hx hb dX10_lehr_40 rfl (lv_at hl 0 rfl) ?_
    refine wgetR (t := 13) C hw flX10_49 (rfl : _ = some (0, 10)) rfl dX10_lehr_41 ?_
    refine wgetR (t := 14) C hw flX10_106 (rfl : _ = some (0, 1)) rfl dX10_lehr_44 ?_
    refine lv_aload_n hx hb dX10_lehr_47 rfl (lv_at hl 0 rfl) ?_
    refine wgetR (t := 7) C hw flX10_44 (rfl : _ = some (0, 10)) rfl dX10_lehr_48 ?_
    obtain ⟨M13, e12, h⟩ := bnd_some h
    refine wcallV0 (As := [.ref (P.2.2.1 7)]) (rest := []) C hw (c_X5_copyFrom hW (rfl : _ = some (0, 5)) (rfl : _ = some (0, 5)) e12) vlX10_109 ⟨Nat.le_of_ble_eq_true rfl, Nat.le_of_ble_eq_true rfl⟩ (rfl : _ = some (0, 5)) rfl rfl rfl hl.1 (Nat.le_of_ble_eq_true rfl) dX10_lehr_51 ⟨Nat.zero_le _, Nat.zero_le _⟩ (fun H locs hw => ?_)
    refine lv_aload_n hx hb dX10_lehr_54 rfl (lv_at hl 0 rfl) ?_
    refine wgetR (t := 13) C hw flX10_49 (rfl : _ = some (0, 10)) rfl dX10_lehr_55 ?_
    refine wgetR (t := 20) C hw flX10_112 (rfl : _ = some (0, 1)) rfl dX10_lehr_58 ?_
    obtain ⟨M16, e15, h⟩ := bnd_some h
    refine wcallV0 (As := []) (rest := []) C hw (c_X0_clear hW (rfl : _ = some (0, 0)) e15) vlX10_116 ⟨Nat.le_of_ble_eq_true rfl, Nat.le_of_ble_eq_true rfl⟩ (rfl : _ = some (0, 0)) rfl rfl rfl hl.1 (Nat.le_of_ble_eq_true rfl) dX10_lehr_61 ⟨Nat.zero_le _, Nat.zero_le _⟩ (fun H locs hw => ?_)
    refine lv_aload_n hx hb dX10_lehr_64 rfl (lv_at hl 0 rfl) ?_
    refine lv_iconst (v := 0) hx hb dX10_lehr_65 (by decide) ?_
    refine wputZ C hw fpX10_77 (rfl : _ = some (0, 10)) rfl rfl dX10_lehr_66 (fun M17 eM17 H locs hw => ?_)
    replace h := letv_at eM17 h
    refine lv_aload_n hx hb dX10_lehr_69 rfl (lv_at hl 0 rfl) ?_
    refine wgetR (t := 13) C hw flX10_49 (rfl : _ = some (0, 10)) rfl dX10_lehr_70 ?_
    refine wgetR (t := 14) C hw flX10_106 (rfl : _ = some (0, 1)) rfl dX10_lehr_73 ?_
    refine wgetI C hw flX10_119 (rfl : _ = some (0, 5)) dX10_lehr_76 ?_
    exact wretI_W C hw h dX10_lehr_79
  · replace h := (if_neg c10).symm.trans h
    refine lv_bipush (v := (-4)) hx hb dX10_lehr_37 (by decide) ?_
    exact wretI_W C hw h dX10_lehr_39
set_option maxRecDepth 100000 in
set_option maxHeartbeats 4000000 in
theorem c_X10_fault {l : Launch} {P : Wp} {E : State → Heap → Prop} (hW : Wok shC P E) {p1 : Int32} {M : Mem} {r : Int32} (h : f_X10_fault p1 M = r) : CT l shC P E yX10_fault bX10_fault 2 ((some .int)) 0 0 [.ref (P.2.2.1 0), .int p1] (some (.int r)) M M := by
  refine ct_of hW (by decide) (Nat.le_of_ble_eq_true rfl) (fun p e s m args below meth c C ls hl hw => ?_)
  have hx := C.1
  have hb := C.2.1
  replace hl : lv_has ls 2 [(0, .ref (P.2.2.1 0)), (1, .int p1)] := hl
  refine lv_iload_n hx hb dX10_fault_0 rfl (lv_at hl 1 rfl) ?_
  by_cases c1 : p1 = 0
  · replace h := (if_pos c1).symm.trans h
    refine lv_lookup (off := 27) (tgt := 28) hx hb dX10_fault_1 (by decide) (by rw [c1]; decide) (by decide) ?_
    refine lv_aload_n hx hb dX10_fault_28 rfl (lv_at hl 0 rfl) ?_
    refine wgetR (t := 6) C hw flX10_37 (rfl : _ = some (0, 10)) rfl dX10_fault_29 ?_
    refine wgetI C hw flX10_103 (rfl : _ = some (0, 6)) dX10_fault_32 ?_
    exact wretI_T C hw h dX10_fault_35
  · replace h := (if_neg c1).symm.trans h
    by_cases c2 : p1 = 1
    · replace h := (if_pos c2).symm.trans h
      refine lv_lookup (off := 35) (tgt := 36) hx hb dX10_fault_1 (by decide) (by rw [c2]; decide) (by decide) ?_
      refine lv_aload_n hx hb dX10_fault_36 rfl (lv_at hl 0 rfl) ?_
      refine wgetR (t := 6) C hw flX10_37 (rfl : _ = some (0, 10)) rfl dX10_fault_37 ?_
      refine wgetI C hw flX10_122 (rfl : _ = some (0, 6)) dX10_fault_40 ?_
      exact wretI_T C hw h dX10_fault_43
    · replace h := (if_neg c2).symm.trans h
      refine lv_lookup (off := 43) (tgt := 44) hx hb dX10_fault_1 (by decide) ((lv_osw c1 (by decide)).trans ((lv_osw c2 (by decide)).trans rfl)) (by decide) ?_
      refine lv_iconst (v := (-1)) hx hb dX10_fault_44 (by decide) ?_
      exact wretI_T C hw h dX10_fault_45
set_option maxRecDepth 100000 in
set_option maxHeartbeats 4000000 in
theorem c_X10_zone {l : Launch} {P : Wp} {E : State → Heap → Prop} (hW : Wok shC P E) {p1 : Int32} {M : Mem} {r : Int32} (h : f_X10_zone p1 M = some r) : CT l shC P E yX10_zone bX10_zone 2 ((some .int)) 1 21 [.ref (P.2.2.1 0), .int p1] (some (.int r)) M M := by
  refine ct_of hW (by decide) (Nat.le_of_ble_eq_true rfl) (fun p e s m args below meth c C ls hl hw => ?_)
  have hx := C.1
  have hb := C.2.1
  replace hl : lv_has ls 2 [(0, .ref (P.2.2.1 0)), (1, .int p1)] := hl
  refine lv_aload_n hx hb dX10_zone_0 rfl (lv_at hl 0 rfl) ?_
  refine wgetR (t := 13) C hw flX10_49 (rfl : _ = some (0, 10)) rfl dX10_zone_1 ?_
  refine wgetR (t := 14) C hw flX10_106 (rfl : _ = some (0, 1)) rfl dX10_zone_4 ?_
  refine lv_iload_n hx hb dX10_zone_7 rfl (lv_at hl 1 rfl) ?_
  refine wcallV1 (As := [.int p1]) (rest := []) C hw (c_X5_hasZone hW (rfl : _ = some (0, 5)) rfl) vlX10_125 ⟨Nat.le_of_ble_eq_true rfl, Nat.le_of_ble_eq_true rfl⟩ (rfl : _ = some (0, 5)) rfl rfl rfl hl.1 (Nat.le_of_ble_eq_true rfl) dX10_zone_8 ⟨Nat.zero_le _, Nat.zero_le _⟩ (fun H locs hw => ?_)
  refine lv_if_eq (tgt := 29) hx hb dX10_zone_11 (by decide) (fun c1 => ?_) (fun c1 => ?_)
  · replace h := (if_pos c1).symm.trans h
    refine lv_bipush (v := (-2)) hx hb dX10_zone_29 (by decide) ?_
    exact wretI_R C hw h dX10_zone_31
  · replace h := (if_neg c1).symm.trans h
    refine lv_aload_n hx hb dX10_zone_14 rfl (lv_at hl 0 rfl) ?_
    refine wgetR (t := 13) C hw flX10_49 (rfl : _ = some (0, 10)) rfl dX10_zone_15 ?_
    refine wgetR (t := 14) C hw flX10_106 (rfl : _ = some (0, 1)) rfl dX10_zone_18 ?_
    refine wgetR (t := 15) C hw flX10_128 (rfl : _ = some (0, 5)) rfl dX10_zone_21 ?_
    refine lv_iload_n hx hb dX10_zone_24 rfl (lv_at hl 1 rfl) ?_
    obtain ⟨g2, h⟩ := grd h
    refine wald C hw (rfl : _ = some (1, 7)) g2 dX10_zone_25 ?_
    refine lv_goto (tgt := 31) hx hb dX10_zone_26 (by decide) ?_
    exact wretI_R C hw h dX10_zone_31
set_option maxRecDepth 100000 in
set_option maxHeartbeats 4000000 in
theorem c_X10_piece {l : Launch} {P : Wp} {E : State → Heap → Prop} (hW : Wok shC P E) {p1 : Int32} {p2 : Int32} {M : Mem} {r : Int32} (h : f_X10_piece p1 p2 M = some r) : CT l shC P E yX10_piece bX10_piece 3 ((some .int)) 1 21 [.ref (P.2.2.1 0), .int p1, .int p2] (some (.int r)) M M := by
  refine ct_of hW (by decide) (Nat.le_of_ble_eq_true rfl) (fun p e s m args below meth c C ls hl hw => ?_)
  have hx := C.1
  have hb := C.2.1
  replace hl : lv_has ls 3 [(0, .ref (P.2.2.1 0)), (1, .int p1), (2, .int p2)] := hl
  refine lv_aload_n hx hb dX10_piece_0 rfl (lv_at hl 0 rfl) ?_
  refine wgetR (t := 13) C hw flX10_49 (rfl : _ = some (0, 10)) rfl dX10_piece_1 ?_
  refine wgetR (t := 14) C hw flX10_106 (rfl : _ = some (0, 1)) rfl dX10_piece_4 ?_
  refine lv_iload_n hx hb dX10_piece_7 rfl (lv_at hl 1 rfl) ?_
  refine wcallV1 (As := [.int p1]) (rest := []) C hw (c_X5_hasPiece hW (rfl : _ = some (0, 5)) rfl) vlX10_132 ⟨Nat.le_of_ble_eq_true rfl, Nat.le_of_ble_eq_true rfl⟩ (rfl : _ = some (0, 5)) rfl rfl rfl hl.1 (Nat.le_of_ble_eq_true rfl) dX10_piece_8 ⟨Nat.zero_le _, Nat.zero_le _⟩ (fun H locs hw => ?_)
  refine lv_if_ne (tgt := 17) hx hb dX10_piece_11 (by decide) (fun c1 => ?_) (fun c1 => ?_)
  · replace h := (if_neg c1).symm.trans h
    refine lv_iload_n hx hb dX10_piece_17 rfl (lv_at hl 2 rfl) ?_
    by_cases c2 : p2 = 0
    · replace h := (if_pos c2).symm.trans h
      refine lv_tableIn (off := 30) (tgt := 48) hx hb dX10_piece_18 (by rw [c2]; decide) (by rw [c2]; decide) (by rw [c2]; decide) (by decide) ?_
      refine lv_aload_n hx hb dX10_piece_48 rfl (lv_at hl 0 rfl) ?_
      refine wgetR (t := 13) C hw flX10_49 (rfl : _ = some (0, 10)) rfl dX10_piece_49 ?_
      refine wgetR (t := 14) C hw flX10_106 (rfl : _ = some (0, 1)) rfl dX10_piece_52 ?_
      refine wgetR (t := 16) C hw flX10_135 (rfl : _ = some (0, 5)) rfl dX10_piece_55 ?_
      refine lv_iload_n hx hb dX10_piece_58 rfl (lv_at hl 1 rfl) ?_
      obtain ⟨g6, h⟩ := grd h
      refine wald C hw (rfl : _ = some (1, 6)) g6 dX10_piece_59 ?_
      exact wretI_R C hw h dX10_piece_60
    · replace h := (if_neg c2).symm.trans h
      by_cases c3 : p2 = 1
      · replace h := (if_pos c3).symm.trans h
        refine lv_tableIn (off := 43) (tgt := 61) hx hb dX10_piece_18 (by rw [c3]; decide) (by rw [c3]; decide) (by rw [c3]; decide) (by decide) ?_
        refine lv_aload_n hx hb dX10_piece_61 rfl (lv_at hl 0 rfl) ?_
        refine wgetR (t := 13) C hw flX10_49 (rfl : _ = some (0, 10)) rfl dX10_piece_62 ?_
        refine wgetR (t := 14) C hw flX10_106 (rfl : _ = some (0, 1)) rfl dX10_piece_65 ?_
        refine wgetR (t := 17) C hw flX10_138 (rfl : _ = some (0, 5)) rfl dX10_piece_68 ?_
        refine lv_iload_n hx hb dX10_piece_71 rfl (lv_at hl 1 rfl) ?_
        obtain ⟨g7, h⟩ := grd h
        refine wald C hw (rfl : _ = some (1, 6)) g7 dX10_piece_72 ?_
        exact wretI_R C hw h dX10_piece_73
      · replace h := (if_neg c3).symm.trans h
        by_cases c4 : p2 = 2
        · replace h := (if_pos c4).symm.trans h
          refine lv_tableIn (off := 56) (tgt := 74) hx hb dX10_piece_18 (by rw [c4]; decide) (by rw [c4]; decide) (by rw [c4]; decide) (by decide) ?_
          refine lv_aload_n hx hb dX10_piece_74 rfl (lv_at hl 0 rfl) ?_
          refine wgetR (t := 13) C hw flX10_49 (rfl : _ = some (0, 10)) rfl dX10_piece_75 ?_
          refine wgetR (t := 14) C hw flX10_106 (rfl : _ = some (0, 1)) rfl dX10_piece_78 ?_
          refine wgetR (t := 18) C hw flX10_141 (rfl : _ = some (0, 5)) rfl dX10_piece_81 ?_
          refine lv_iload_n hx hb dX10_piece_84 rfl (lv_at hl 1 rfl) ?_
          obtain ⟨g8, h⟩ := grd h
          refine wald C hw (rfl : _ = some (1, 6)) g8 dX10_piece_85 ?_
          exact wretI_R C hw h dX10_piece_86
        · replace h := (if_neg c4).symm.trans h
          by_cases c5 : p2 = 3
          · replace h := (if_pos c5).symm.trans h
            refine lv_tableIn (off := 69) (tgt := 87) hx hb dX10_piece_18 (by rw [c5]; decide) (by rw [c5]; decide) (by rw [c5]; decide) (by decide) ?_
            refine lv_aload_n hx hb dX10_piece_87 rfl (lv_at hl 0 rfl) ?_
            refine wgetR (t := 13) C hw flX10_49 (rfl : _ = some (0, 10)) rfl dX10_piece_88 ?_
            refine wgetR (t := 14) C hw flX10_106 (rfl : _ = some (0, 1)) rfl dX10_piece_91 ?_
            refine wgetR (t := 19) C hw flX10_144 (rfl : _ = some (0, 5)) rfl dX10_piece_94 ?_
            refine lv_iload_n hx hb dX10_piece_97 rfl (lv_at hl 1 rfl) ?_
            obtain ⟨g9, h⟩ := grd h
            refine wald C hw (rfl : _ = some (1, 6)) g9 dX10_piece_98 ?_
            exact wretI_R C hw h dX10_piece_99
          · replace h := (if_neg c5).symm.trans h
            refine lv_tableOut (tgt := 100) hx hb dX10_piece_18 (by have q0 := lv_neT (a := 0) c2 (by decide); have q1 := lv_neT (a := 1) c3 (by decide); have q2 := lv_neT (a := 2) c4 (by decide); have q3 := lv_neT (a := 3) c5 (by decide); omega) (by decide) ?_
            refine lv_bipush (v := (-2)) hx hb dX10_piece_100 (by decide) ?_
            exact wretI_R C hw h dX10_piece_102
  · replace h := (if_pos c1).symm.trans h
    refine lv_bipush (v := (-2)) hx hb dX10_piece_14 (by decide) ?_
    exact wretI_R C hw h dX10_piece_16
set_option maxRecDepth 100000 in
set_option maxHeartbeats 4000000 in
theorem c_X10_air {l : Launch} {P : Wp} {E : State → Heap → Prop} (hW : Wok shC P E) {p1 : Int32} {p2 : Int32} {M : Mem} {r : Int32} (h : f_X10_air p1 p2 M = some r) : CT l shC P E yX10_air bX10_air 3 ((some .int)) 2 65 [.ref (P.2.2.1 0), .int p1, .int p2] (some (.int r)) M M := by
  refine ct_of hW (by decide) (Nat.le_of_ble_eq_true rfl) (fun p e s m args below meth c C ls hl hw => ?_)
  have hx := C.1
  have hb := C.2.1
  replace hl : lv_has ls 3 [(0, .ref (P.2.2.1 0)), (1, .int p1), (2, .int p2)] := hl
  refine lv_aload_n hx hb dX10_air_0 rfl (lv_at hl 0 rfl) ?_
  refine wgetR (t := 13) C hw flX10_49 (rfl : _ = some (0, 10)) rfl dX10_air_1 ?_
  refine wgetR (t := 14) C hw flX10_106 (rfl : _ = some (0, 1)) rfl dX10_air_4 ?_
  refine lv_iload_n hx hb dX10_air_7 rfl (lv_at hl 1 rfl) ?_
  refine wcallV1 (As := [.int p1]) (rest := []) C hw (c_X5_hasZone hW (rfl : _ = some (0, 5)) rfl) vlX10_125 ⟨Nat.le_of_ble_eq_true rfl, Nat.le_of_ble_eq_true rfl⟩ (rfl : _ = some (0, 5)) rfl rfl rfl hl.1 (Nat.le_of_ble_eq_true rfl) dX10_air_8 ⟨Nat.zero_le _, Nat.zero_le _⟩ (fun H locs hw => ?_)
  refine lv_if_eq (tgt := 28) hx hb dX10_air_11 (by decide) (fun c1 => ?_) (fun c1 => ?_)
  · replace h := (if_pos c1).symm.trans h
    refine lv_bipush (v := (-2)) hx hb dX10_air_28 (by decide) ?_
    exact wretI_R C hw h dX10_air_30
  · replace h := (if_neg c1).symm.trans h
    refine lv_aload_n hx hb dX10_air_14 rfl (lv_at hl 0 rfl) ?_
    refine wgetR (t := 13) C hw flX10_49 (rfl : _ = some (0, 10)) rfl dX10_air_15 ?_
    refine wgetR (t := 14) C hw flX10_106 (rfl : _ = some (0, 1)) rfl dX10_air_18 ?_
    refine lv_iload_n hx hb dX10_air_21 rfl (lv_at hl 2 rfl) ?_
    refine wcallV1 (As := [.int p2]) (rest := []) C hw (c_X5_hasStep hW (rfl : _ = some (0, 5)) rfl) vlX10_147 ⟨Nat.le_of_ble_eq_true rfl, Nat.le_of_ble_eq_true rfl⟩ (rfl : _ = some (0, 5)) rfl rfl rfl hl.1 (Nat.le_of_ble_eq_true rfl) dX10_air_22 ⟨Nat.zero_le _, Nat.zero_le _⟩ (fun H locs hw => ?_)
    refine lv_if_ne (tgt := 31) hx hb dX10_air_25 (by decide) (fun c2 => ?_) (fun c2 => ?_)
    · replace h := (if_neg c2).symm.trans h
      refine lv_aload_n hx hb dX10_air_31 rfl (lv_at hl 0 rfl) ?_
      refine wgetR (t := 13) C hw flX10_49 (rfl : _ = some (0, 10)) rfl dX10_air_32 ?_
      refine lv_iload_n hx hb dX10_air_35 rfl (lv_at hl 1 rfl) ?_
      refine lv_iload_n hx hb dX10_air_36 rfl (lv_at hl 2 rfl) ?_
      refine lv_aload_n hx hb dX10_air_37 rfl (lv_at hl 0 rfl) ?_
      refine wgetR (t := 13) C hw flX10_49 (rfl : _ = some (0, 10)) rfl dX10_air_38 ?_
      refine wgetR (t := 20) C hw flX10_112 (rfl : _ = some (0, 1)) rfl dX10_air_41 ?_
      refine wgetI C hw flX10_150 (rfl : _ = some (0, 0)) dX10_air_44 ?_
      obtain ⟨r3, e4, h⟩ := bnd_some h
      refine wcallV1 (As := [.int p1, .int p2, .int (M.1 20 1)]) (rest := []) C hw (c_X1_airAt hW (rfl : _ = some (0, 1)) e4) vlX10_153 ⟨Nat.le_of_ble_eq_true rfl, Nat.le_of_ble_eq_true rfl⟩ (rfl : _ = some (0, 1)) rfl rfl rfl hl.1 (Nat.le_of_ble_eq_true rfl) dX10_air_47 ⟨Nat.zero_le _, Nat.zero_le _⟩ (fun H locs hw => ?_)
      exact wretI_R C hw h dX10_air_50
    · replace h := (if_pos c2).symm.trans h
      refine lv_bipush (v := (-2)) hx hb dX10_air_28 (by decide) ?_
      exact wretI_R C hw h dX10_air_30
set_option maxRecDepth 100000 in
set_option maxHeartbeats 4000000 in
theorem c_X10_where {l : Launch} {P : Wp} {E : State → Heap → Prop} (hW : Wok shC P E) {p1 : Int32} {p2 : Int32} {M : Mem} {r : Int32} (h : f_X10_where p1 p2 M = some r) : CT l shC P E yX10_where bX10_where 3 ((some .int)) 2 41 [.ref (P.2.2.1 0), .int p1, .int p2] (some (.int r)) M M := by
  refine ct_of hW (by decide) (Nat.le_of_ble_eq_true rfl) (fun p e s m args below meth c C ls hl hw => ?_)
  have hx := C.1
  have hb := C.2.1
  replace hl : lv_has ls 3 [(0, .ref (P.2.2.1 0)), (1, .int p1), (2, .int p2)] := hl
  refine lv_aload_n hx hb dX10_where_0 rfl (lv_at hl 0 rfl) ?_
  refine wgetR (t := 13) C hw flX10_49 (rfl : _ = some (0, 10)) rfl dX10_where_1 ?_
  refine wgetR (t := 14) C hw flX10_106 (rfl : _ = some (0, 1)) rfl dX10_where_4 ?_
  refine lv_iload_n hx hb dX10_where_7 rfl (lv_at hl 1 rfl) ?_
  refine wcallV1 (As := [.int p1]) (rest := []) C hw (c_X5_hasPiece hW (rfl : _ = some (0, 5)) rfl) vlX10_132 ⟨Nat.le_of_ble_eq_true rfl, Nat.le_of_ble_eq_true rfl⟩ (rfl : _ = some (0, 5)) rfl rfl rfl hl.1 (Nat.le_of_ble_eq_true rfl) dX10_where_8 ⟨Nat.zero_le _, Nat.zero_le _⟩ (fun H locs hw => ?_)
  refine lv_if_eq (tgt := 28) hx hb dX10_where_11 (by decide) (fun c1 => ?_) (fun c1 => ?_)
  · replace h := (if_pos c1).symm.trans h
    refine lv_bipush (v := (-2)) hx hb dX10_where_28 (by decide) ?_
    exact wretI_R C hw h dX10_where_30
  · replace h := (if_neg c1).symm.trans h
    refine lv_aload_n hx hb dX10_where_14 rfl (lv_at hl 0 rfl) ?_
    refine wgetR (t := 13) C hw flX10_49 (rfl : _ = some (0, 10)) rfl dX10_where_15 ?_
    refine wgetR (t := 14) C hw flX10_106 (rfl : _ = some (0, 1)) rfl dX10_where_18 ?_
    refine lv_iload_n hx hb dX10_where_21 rfl (lv_at hl 2 rfl) ?_
    refine wcallV1 (As := [.int p2]) (rest := []) C hw (c_X5_hasStep hW (rfl : _ = some (0, 5)) rfl) vlX10_147 ⟨Nat.le_of_ble_eq_true rfl, Nat.le_of_ble_eq_true rfl⟩ (rfl : _ = some (0, 5)) rfl rfl rfl hl.1 (Nat.le_of_ble_eq_true rfl) dX10_where_22 ⟨Nat.zero_le _, Nat.zero_le _⟩ (fun H locs hw => ?_)
    refine lv_if_ne (tgt := 31) hx hb dX10_where_25 (by decide) (fun c2 => ?_) (fun c2 => ?_)
    · replace h := (if_neg c2).symm.trans h
      refine lv_aload_n hx hb dX10_where_31 rfl (lv_at hl 0 rfl) ?_
      refine wgetR (t := 13) C hw flX10_49 (rfl : _ = some (0, 10)) rfl dX10_where_32 ?_
      refine wgetR (t := 14) C hw flX10_106 (rfl : _ = some (0, 1)) rfl dX10_where_35 ?_
      refine lv_iload_n hx hb dX10_where_38 rfl (lv_at hl 1 rfl) ?_
      refine lv_iload_n hx hb dX10_where_39 rfl (lv_at hl 2 rfl) ?_
      obtain ⟨r3, e4, h⟩ := bnd_some h
      refine wcallV1 (As := [.int p1, .int p2]) (rest := []) C hw (c_X5_placeAt hW (rfl : _ = some (0, 5)) e4) vlX10_157 ⟨Nat.le_of_ble_eq_true rfl, Nat.le_of_ble_eq_true rfl⟩ (rfl : _ = some (0, 5)) rfl rfl rfl hl.1 (Nat.le_of_ble_eq_true rfl) dX10_where_40 ⟨Nat.zero_le _, Nat.zero_le _⟩ (fun H locs hw => ?_)
      exact wretI_R C hw h dX10_where_43
    · replace h := (if_pos c2).symm.trans h
      refine lv_bipush (v := (-2)) hx hb dX10_where_28 (by decide) ?_
      exact wretI_R C hw h dX10_where_30
set_option maxRecDepth 100000 in
set_option maxHeartbeats 4000000 in
theorem c_X10_inside {l : Launch} {P : Wp} {E : State → Heap → Prop} (hW : Wok shC P E) {p1 : Int32} {p2 : Int32} {M : Mem} {r : Int32} (h : f_X10_inside p1 p2 M = some r) : CT l shC P E yX10_inside bX10_inside 3 ((some .int)) 2 47 [.ref (P.2.2.1 0), .int p1, .int p2] (some (.int r)) M M := by
  refine ct_of hW (by decide) (Nat.le_of_ble_eq_true rfl) (fun p e s m args below meth c C ls hl hw => ?_)
  have hx := C.1
  have hb := C.2.1
  replace hl : lv_has ls 3 [(0, .ref (P.2.2.1 0)), (1, .int p1), (2, .int p2)] := hl
  refine lv_aload_n hx hb dX10_inside_0 rfl (lv_at hl 0 rfl) ?_
  refine wgetR (t := 13) C hw flX10_49 (rfl : _ = some (0, 10)) rfl dX10_inside_1 ?_
  refine wgetR (t := 14) C hw flX10_106 (rfl : _ = some (0, 1)) rfl dX10_inside_4 ?_
  refine lv_iload_n hx hb dX10_inside_7 rfl (lv_at hl 1 rfl) ?_
  refine wcallV1 (As := [.int p1]) (rest := []) C hw (c_X5_hasZone hW (rfl : _ = some (0, 5)) rfl) vlX10_125 ⟨Nat.le_of_ble_eq_true rfl, Nat.le_of_ble_eq_true rfl⟩ (rfl : _ = some (0, 5)) rfl rfl rfl hl.1 (Nat.le_of_ble_eq_true rfl) dX10_inside_8 ⟨Nat.zero_le _, Nat.zero_le _⟩ (fun H locs hw => ?_)
  refine lv_if_eq (tgt := 28) hx hb dX10_inside_11 (by decide) (fun c1 => ?_) (fun c1 => ?_)
  · replace h := (if_pos c1).symm.trans h
    refine lv_bipush (v := (-2)) hx hb dX10_inside_28 (by decide) ?_
    exact wretI_R C hw h dX10_inside_30
  · replace h := (if_neg c1).symm.trans h
    refine lv_aload_n hx hb dX10_inside_14 rfl (lv_at hl 0 rfl) ?_
    refine wgetR (t := 13) C hw flX10_49 (rfl : _ = some (0, 10)) rfl dX10_inside_15 ?_
    refine wgetR (t := 14) C hw flX10_106 (rfl : _ = some (0, 1)) rfl dX10_inside_18 ?_
    refine lv_iload_n hx hb dX10_inside_21 rfl (lv_at hl 2 rfl) ?_
    refine wcallV1 (As := [.int p2]) (rest := []) C hw (c_X5_hasStep hW (rfl : _ = some (0, 5)) rfl) vlX10_147 ⟨Nat.le_of_ble_eq_true rfl, Nat.le_of_ble_eq_true rfl⟩ (rfl : _ = some (0, 5)) rfl rfl rfl hl.1 (Nat.le_of_ble_eq_true rfl) dX10_inside_22 ⟨Nat.zero_le _, Nat.zero_le _⟩ (fun H locs hw => ?_)
    refine lv_if_ne (tgt := 31) hx hb dX10_inside_25 (by decide) (fun c2 => ?_) (fun c2 => ?_)
    · replace h := (if_neg c2).symm.trans h
      refine lv_aload_n hx hb dX10_inside_31 rfl (lv_at hl 0 rfl) ?_
      refine wgetR (t := 13) C hw flX10_49 (rfl : _ = some (0, 10)) rfl dX10_inside_32 ?_
      refine wgetR (t := 14) C hw flX10_106 (rfl : _ = some (0, 1)) rfl dX10_inside_35 ?_
      refine lv_iload_n hx hb dX10_inside_38 rfl (lv_at hl 1 rfl) ?_
      refine lv_iload_n hx hb dX10_inside_39 rfl (lv_at hl 2 rfl) ?_
      obtain ⟨r3, e4, h⟩ := bnd_some h
      refine wcallV1 (As := [.int p1, .int p2]) (rest := []) C hw (c_X5_piecesAt hW (rfl : _ = some (0, 5)) e4) vlX10_161 ⟨Nat.le_of_ble_eq_true rfl, Nat.le_of_ble_eq_true rfl⟩ (rfl : _ = some (0, 5)) rfl rfl rfl hl.1 (Nat.le_of_ble_eq_true rfl) dX10_inside_40 ⟨Nat.zero_le _, Nat.zero_le _⟩ (fun H locs hw => ?_)
      exact wretI_R C hw h dX10_inside_43
    · replace h := (if_pos c2).symm.trans h
      refine lv_bipush (v := (-2)) hx hb dX10_inside_28 (by decide) ?_
      exact wretI_R C hw h dX10_inside_30
set_option maxRecDepth 100000 in
set_option maxHeartbeats 4000000 in
theorem c_X10_out {l : Launch} {P : Wp} {E : State → Heap → Prop} (hW : Wok shC P E) {p1 : Int32} {M : Mem} {r : Int32} (h : f_X10_out p1 M = some r) : CT l shC P E yX10_out bX10_out 2 ((some .int)) 2 47 [.ref (P.2.2.1 0), .int p1] (some (.int r)) M M := by
  refine ct_of hW (by decide) (Nat.le_of_ble_eq_true rfl) (fun p e s m args below meth c C ls hl hw => ?_)
  have hx := C.1
  have hb := C.2.1
  replace hl : lv_has ls 2 [(0, .ref (P.2.2.1 0)), (1, .int p1)] := hl
  refine lv_aload_n hx hb dX10_out_0 rfl (lv_at hl 0 rfl) ?_
  refine wgetR (t := 13) C hw flX10_49 (rfl : _ = some (0, 10)) rfl dX10_out_1 ?_
  refine wgetR (t := 14) C hw flX10_106 (rfl : _ = some (0, 1)) rfl dX10_out_4 ?_
  refine lv_iload_n hx hb dX10_out_7 rfl (lv_at hl 1 rfl) ?_
  refine wcallV1 (As := [.int p1]) (rest := []) C hw (c_X5_hasStep hW (rfl : _ = some (0, 5)) rfl) vlX10_147 ⟨Nat.le_of_ble_eq_true rfl, Nat.le_of_ble_eq_true rfl⟩ (rfl : _ = some (0, 5)) rfl rfl rfl hl.1 (Nat.le_of_ble_eq_true rfl) dX10_out_8 ⟨Nat.zero_le _, Nat.zero_le _⟩ (fun H locs hw => ?_)
  refine lv_if_eq (tgt := 30) hx hb dX10_out_11 (by decide) (fun c1 => ?_) (fun c1 => ?_)
  · replace h := (if_pos c1).symm.trans h
    refine lv_bipush (v := (-2)) hx hb dX10_out_30 (by decide) ?_
    exact wretI_R C hw h dX10_out_32
  · replace h := (if_neg c1).symm.trans h
    refine lv_aload_n hx hb dX10_out_14 rfl (lv_at hl 0 rfl) ?_
    refine wgetR (t := 13) C hw flX10_49 (rfl : _ = some (0, 10)) rfl dX10_out_15 ?_
    refine wgetR (t := 14) C hw flX10_106 (rfl : _ = some (0, 1)) rfl dX10_out_18 ?_
    refine lv_bipush (v := 10) hx hb dX10_out_21 (by decide) ?_
    refine lv_iload_n hx hb dX10_out_23 rfl (lv_at hl 1 rfl) ?_
    obtain ⟨r2, e3, h⟩ := bnd_some h
    refine wcallV1 (As := [.int 10, .int p1]) (rest := []) C hw (c_X5_piecesAt hW (rfl : _ = some (0, 5)) e3) vlX10_161 ⟨Nat.le_of_ble_eq_true rfl, Nat.le_of_ble_eq_true rfl⟩ (rfl : _ = some (0, 5)) rfl rfl rfl hl.1 (Nat.le_of_ble_eq_true rfl) dX10_out_24 ⟨Nat.zero_le _, Nat.zero_le _⟩ (fun H locs hw => ?_)
    refine lv_goto (tgt := 32) hx hb dX10_out_27 (by decide) ?_
    exact wretI_R C hw h dX10_out_32
set_option maxRecDepth 100000 in
set_option maxHeartbeats 4000000 in
theorem c_X10_leaves {l : Launch} {P : Wp} {E : State → Heap → Prop} (hW : Wok shC P E) {p1 : Int32} {M : Mem} {r : Int32} (h : f_X10_leaves p1 M = some r) : CT l shC P E yX10_leaves bX10_leaves 2 ((some .int)) 2 43 [.ref (P.2.2.1 0), .int p1] (some (.int r)) M M := by
  refine ct_of hW (by decide) (Nat.le_of_ble_eq_true rfl) (fun p e s m args below meth c C ls hl hw => ?_)
  have hx := C.1
  have hb := C.2.1
  replace hl : lv_has ls 2 [(0, .ref (P.2.2.1 0)), (1, .int p1)] := hl
  refine lv_aload_n hx hb dX10_leaves_0 rfl (lv_at hl 0 rfl) ?_
  refine wgetR (t := 13) C hw flX10_49 (rfl : _ = some (0, 10)) rfl dX10_leaves_1 ?_
  refine wgetR (t := 14) C hw flX10_106 (rfl : _ = some (0, 1)) rfl dX10_leaves_4 ?_
  refine lv_iload_n hx hb dX10_leaves_7 rfl (lv_at hl 1 rfl) ?_
  refine wcallV1 (As := [.int p1]) (rest := []) C hw (c_X5_hasPiece hW (rfl : _ = some (0, 5)) rfl) vlX10_132 ⟨Nat.le_of_ble_eq_true rfl, Nat.le_of_ble_eq_true rfl⟩ (rfl : _ = some (0, 5)) rfl rfl rfl hl.1 (Nat.le_of_ble_eq_true rfl) dX10_leaves_8 ⟨Nat.zero_le _, Nat.zero_le _⟩ (fun H locs hw => ?_)
  refine lv_if_eq (tgt := 28) hx hb dX10_leaves_11 (by decide) (fun c1 => ?_) (fun c1 => ?_)
  · replace h := (if_pos c1).symm.trans h
    refine lv_bipush (v := (-2)) hx hb dX10_leaves_28 (by decide) ?_
    exact wretI_R C hw h dX10_leaves_30
  · replace h := (if_neg c1).symm.trans h
    refine lv_aload_n hx hb dX10_leaves_14 rfl (lv_at hl 0 rfl) ?_
    refine wgetR (t := 13) C hw flX10_49 (rfl : _ = some (0, 10)) rfl dX10_leaves_15 ?_
    refine wgetR (t := 14) C hw flX10_106 (rfl : _ = some (0, 1)) rfl dX10_leaves_18 ?_
    refine lv_iload_n hx hb dX10_leaves_21 rfl (lv_at hl 1 rfl) ?_
    obtain ⟨r2, e3, h⟩ := bnd_some h
    refine wcallV1 (As := [.int p1]) (rest := []) C hw (c_X5_leavingStep hW (rfl : _ = some (0, 5)) e3) vlX10_164 ⟨Nat.le_of_ble_eq_true rfl, Nat.le_of_ble_eq_true rfl⟩ (rfl : _ = some (0, 5)) rfl rfl rfl hl.1 (Nat.le_of_ble_eq_true rfl) dX10_leaves_22 ⟨Nat.zero_le _, Nat.zero_le _⟩ (fun H locs hw => ?_)
    refine lv_goto (tgt := 30) hx hb dX10_leaves_25 (by decide) ?_
    exact wretI_R C hw h dX10_leaves_30
set_option maxRecDepth 100000 in
set_option maxHeartbeats 4000000 in
theorem c_X10_followedCourse {l : Launch} {P : Wp} {E : State → Heap → Prop} (hW : Wok shC P E) {M : Mem} {M' : Mem} (h : f_X10_followedCourse M = some M') : CT l shC P E yX10_followedCourse bX10_followedCourse 1 ((some (.object "LehrBelt$Course"))) 4 118 [.ref (P.2.2.1 0)] (some (.ref (P.2.2.1 25))) M M' := by
  refine ct_of hW (by decide) (Nat.le_of_ble_eq_true rfl) (fun p e s m args below meth c C ls hl hw => ?_)
  have hx := C.1
  have hb := C.2.1
  replace hl : lv_has ls 1 [(0, .ref (P.2.2.1 0))] := hl
  refine lv_aload_n hx hb dX10_followedCourse_0 rfl (lv_at hl 0 rfl) ?_
  refine wgetI C hw flX10_77 (rfl : _ = some (0, 10)) dX10_followedCourse_1 ?_
  refine lv_if_ne (tgt := 32) hx hb dX10_followedCourse_4 (by decide) (fun c1 => ?_) (fun c1 => ?_)
  · replace h := (if_neg c1).symm.trans h
    refine lv_aload_n hx hb dX10_followedCourse_32 rfl (lv_at hl 0 rfl) ?_
    refine wgetR (t := 25) C hw flX10_58 (rfl : _ = some (0, 10)) rfl dX10_followedCourse_33 ?_
    exact wretA_W C hw rfl (Or.inl ⟨_, rfl⟩) rfl h dX10_followedCourse_36
  · replace h := (if_pos c1).symm.trans h
    refine lv_aload_n hx hb dX10_followedCourse_7 rfl (lv_at hl 0 rfl) ?_
    refine wgetR (t := 25) C hw flX10_58 (rfl : _ = some (0, 10)) rfl dX10_followedCourse_8 ?_
    refine lv_iconst (v := 0) hx hb dX10_followedCourse_11 (by decide) ?_
    refine lv_aload_n hx hb dX10_followedCourse_12 rfl (lv_at hl 0 rfl) ?_
    refine wgetR (t := 13) C hw flX10_49 (rfl : _ = some (0, 10)) rfl dX10_followedCourse_13 ?_
    refine wgetR (t := 14) C hw flX10_106 (rfl : _ = some (0, 1)) rfl dX10_followedCourse_16 ?_
    refine wgetI C hw flX10_210 (rfl : _ = some (0, 5)) dX10_followedCourse_19 ?_
    refine lv_bipush (v := 63) hx hb dX10_followedCourse_22 (by decide) ?_
    obtain ⟨M4, e3, h⟩ := bnd_some h
    refine wcallV0 (As := [.int 0, .int (M.1 14 1), .int 63]) (rest := []) C hw (c_X2_follow hW (rfl : _ = some (0, 2)) e3) vlX10_462 ⟨Nat.le_of_ble_eq_true rfl, Nat.le_of_ble_eq_true rfl⟩ (rfl : _ = some (0, 2)) rfl rfl rfl hl.1 (Nat.le_of_ble_eq_true rfl) dX10_followedCourse_24 ⟨Nat.zero_le _, Nat.zero_le _⟩ (fun H locs hw => ?_)
    refine lv_aload_n hx hb dX10_followedCourse_27 rfl (lv_at hl 0 rfl) ?_
    refine lv_iconst (v := 1) hx hb dX10_followedCourse_28 (by decide) ?_
    refine wputZ C hw fpX10_77 (rfl : _ = some (0, 10)) rfl rfl dX10_followedCourse_29 (fun M5 eM5 H locs hw => ?_)
    replace h := letv_at eM5 h
    refine lv_aload_n hx hb dX10_followedCourse_32 rfl (lv_at hl 0 rfl) ?_
    refine wgetR (t := 25) C hw flX10_58 (rfl : _ = some (0, 10)) rfl dX10_followedCourse_33 ?_
    exact wretA_W C hw rfl (Or.inl ⟨_, rfl⟩) rfl h dX10_followedCourse_36
set_option maxRecDepth 100000 in
set_option maxHeartbeats 4000000 in
theorem c_X10_ofPieceAt {l : Launch} {P : Wp} {E : State → Heap → Prop} (hW : Wok shC P E) {p1 : Int32} {p2 : Int32} {p3 : Int32} {M : Mem} {r : Int32} {M' : Mem} (h : f_X10_ofPieceAt p1 p2 p3 M = some (r, M')) : CT l shC P E yX10_ofPieceAt bX10_ofPieceAt 4 ((some .int)) 5 138 [.ref (P.2.2.1 0), .int p1, .int p2, .int p3] (some (.int r)) M M' := by
  refine ct_of hW (by decide) (Nat.le_of_ble_eq_true rfl) (fun p e s m args below meth c C ls hl hw => ?_)
  have hx := C.1
  have hb := C.2.1
  replace hl : lv_has ls 4 [(0, .ref (P.2.2.1 0)), (1, .int p1), (2, .int p2), (3, .int p3)] := hl
  refine lv_aload_n hx hb dX10_ofPieceAt_0 rfl (lv_at hl 0 rfl) ?_
  refine wgetR (t := 13) C hw flX10_49 (rfl : _ = some (0, 10)) rfl dX10_ofPieceAt_1 ?_
  refine wgetR (t := 14) C hw flX10_106 (rfl : _ = some (0, 1)) rfl dX10_ofPieceAt_4 ?_
  refine lv_iload_n hx hb dX10_ofPieceAt_7 rfl (lv_at hl 2 rfl) ?_
  refine wcallV1 (As := [.int p2]) (rest := []) C hw (c_X5_hasPiece hW (rfl : _ = some (0, 5)) rfl) vlX10_132 ⟨Nat.le_of_ble_eq_true rfl, Nat.le_of_ble_eq_true rfl⟩ (rfl : _ = some (0, 5)) rfl rfl rfl hl.1 (Nat.le_of_ble_eq_true rfl) dX10_ofPieceAt_8 ⟨Nat.zero_le _, Nat.zero_le _⟩ (fun H locs hw => ?_)
  refine lv_if_eq (tgt := 28) hx hb dX10_ofPieceAt_11 (by decide) (fun c1 => ?_) (fun c1 => ?_)
  · replace h := (if_pos c1).symm.trans h
    refine lv_bipush (v := (-2)) hx hb dX10_ofPieceAt_28 (by decide) ?_
    exact wretI_W C hw h dX10_ofPieceAt_30
  · replace h := (if_neg c1).symm.trans h
    refine lv_aload_n hx hb dX10_ofPieceAt_14 rfl (lv_at hl 0 rfl) ?_
    refine wgetR (t := 13) C hw flX10_49 (rfl : _ = some (0, 10)) rfl dX10_ofPieceAt_15 ?_
    refine wgetR (t := 14) C hw flX10_106 (rfl : _ = some (0, 1)) rfl dX10_ofPieceAt_18 ?_
    refine lv_iload_n hx hb dX10_ofPieceAt_21 rfl (lv_at hl 3 rfl) ?_
    refine wcallV1 (As := [.int p3]) (rest := []) C hw (c_X5_hasStep hW (rfl : _ = some (0, 5)) rfl) vlX10_147 ⟨Nat.le_of_ble_eq_true rfl, Nat.le_of_ble_eq_true rfl⟩ (rfl : _ = some (0, 5)) rfl rfl rfl hl.1 (Nat.le_of_ble_eq_true rfl) dX10_ofPieceAt_22 ⟨Nat.zero_le _, Nat.zero_le _⟩ (fun H locs hw => ?_)
    refine lv_if_ne (tgt := 31) hx hb dX10_ofPieceAt_25 (by decide) (fun c2 => ?_) (fun c2 => ?_)
    · replace h := (if_neg c2).symm.trans h
      refine lv_aload_n hx hb dX10_ofPieceAt_31 rfl (lv_at hl 0 rfl) ?_
      obtain ⟨M5, e4, h⟩ := bnd_some h
      refine wcallV1 (As := []) (rest := []) C hw (c_X10_followedCourse hW  e4) vlX10_171 ⟨Nat.le_of_ble_eq_true rfl, Nat.le_of_ble_eq_true rfl⟩ (rfl : _ = some (0, 10)) rfl rfl rfl hl.1 (Nat.le_of_ble_eq_true rfl) dX10_ofPieceAt_32 ⟨Nat.zero_le _, Nat.zero_le _⟩ (fun H locs hw => ?_)
      refine lv_iload_n hx hb dX10_ofPieceAt_35 rfl (lv_at hl 1 rfl) ?_
      refine lv_iload_n hx hb dX10_ofPieceAt_36 rfl (lv_at hl 2 rfl) ?_
      refine lv_iload_n hx hb dX10_ofPieceAt_37 rfl (lv_at hl 3 rfl) ?_
      obtain ⟨r6, e7, h⟩ := bnd_some h
      refine wcallV1 (As := [.int p1, .int p2, .int p3]) (rest := []) C hw (c_X2_valueAt hW (rfl : _ = some (0, 2)) e7) vlX10_175 ⟨Nat.le_of_ble_eq_true rfl, Nat.le_of_ble_eq_true rfl⟩ (rfl : _ = some (0, 2)) rfl rfl rfl hl.1 (Nat.le_of_ble_eq_true rfl) dX10_ofPieceAt_38 ⟨Nat.zero_le _, Nat.zero_le _⟩ (fun H locs hw => ?_)
      exact wretI_W C hw h dX10_ofPieceAt_41
    · replace h := (if_pos c2).symm.trans h
      refine lv_bipush (v := (-2)) hx hb dX10_ofPieceAt_28 (by decide) ?_
      exact wretI_W C hw h dX10_ofPieceAt_30
set_option maxRecDepth 100000 in
set_option maxHeartbeats 4000000 in
theorem c_X10_skin {l : Launch} {P : Wp} {E : State → Heap → Prop} (hW : Wok shC P E) {p1 : Int32} {p2 : Int32} {M : Mem} {r : Int32} {M' : Mem} (h : f_X10_skin p1 p2 M = some (r, M')) : CT l shC P E yX10_skin bX10_skin 3 ((some .int)) 6 161 [.ref (P.2.2.1 0), .int p1, .int p2] (some (.int r)) M M' := by
  refine ct_of hW (by decide) (Nat.le_of_ble_eq_true rfl) (fun p e s m args below meth c C ls hl hw => ?_)
  have hx := C.1
  have hb := C.2.1
  replace hl : lv_has ls 3 [(0, .ref (P.2.2.1 0)), (1, .int p1), (2, .int p2)] := hl
  refine lv_aload_n hx hb dX10_skin_0 rfl (lv_at hl 0 rfl) ?_
  refine lv_iconst (v := 0) hx hb dX10_skin_1 (by decide) ?_
  refine lv_iload_n hx hb dX10_skin_2 rfl (lv_at hl 1 rfl) ?_
  refine lv_iload_n hx hb dX10_skin_3 rfl (lv_at hl 2 rfl) ?_
  obtain ⟨r1, M3, e2, h⟩ := bnd2_some h
  refine wcallV1 (As := [.int 0, .int p1, .int p2]) (rest := []) C hw (c_X10_ofPieceAt hW  e2) vlX10_168 ⟨Nat.le_of_ble_eq_true rfl, Nat.le_of_ble_eq_true rfl⟩ (rfl : _ = some (0, 10)) rfl rfl rfl hl.1 (Nat.le_of_ble_eq_true rfl) dX10_skin_4 ⟨Nat.zero_le _, Nat.zero_le _⟩ (fun H locs hw => ?_)
  exact wretI_W C hw h dX10_skin_7
set_option maxRecDepth 100000 in
set_option maxHeartbeats 4000000 in
theorem c_X10_core {l : Launch} {P : Wp} {E : State → Heap → Prop} (hW : Wok shC P E) {p1 : Int32} {p2 : Int32} {M : Mem} {r : Int32} {M' : Mem} (h : f_X10_core p1 p2 M = some (r, M')) : CT l shC P E yX10_core bX10_core 3 ((some .int)) 6 161 [.ref (P.2.2.1 0), .int p1, .int p2] (some (.int r)) M M' := by
  refine ct_of hW (by decide) (Nat.le_of_ble_eq_true rfl) (fun p e s m args below meth c C ls hl hw => ?_)
  have hx := C.1
  have hb := C.2.1
  replace hl : lv_has ls 3 [(0, .ref (P.2.2.1 0)), (1, .int p1), (2, .int p2)] := hl
  refine lv_aload_n hx hb dX10_core_0 rfl (lv_at hl 0 rfl) ?_
  refine lv_iconst (v := 1) hx hb dX10_core_1 (by decide) ?_
  refine lv_iload_n hx hb dX10_core_2 rfl (lv_at hl 1 rfl) ?_
  refine lv_iload_n hx hb dX10_core_3 rfl (lv_at hl 2 rfl) ?_
  obtain ⟨r1, M3, e2, h⟩ := bnd2_some h
  refine wcallV1 (As := [.int 1, .int p1, .int p2]) (rest := []) C hw (c_X10_ofPieceAt hW  e2) vlX10_168 ⟨Nat.le_of_ble_eq_true rfl, Nat.le_of_ble_eq_true rfl⟩ (rfl : _ = some (0, 10)) rfl rfl rfl hl.1 (Nat.le_of_ble_eq_true rfl) dX10_core_4 ⟨Nat.zero_le _, Nat.zero_le _⟩ (fun H locs hw => ?_)
  exact wretI_W C hw h dX10_core_7
set_option maxRecDepth 100000 in
set_option maxHeartbeats 4000000 in
theorem c_X10_strain {l : Launch} {P : Wp} {E : State → Heap → Prop} (hW : Wok shC P E) {p1 : Int32} {p2 : Int32} {M : Mem} {r : Int32} {M' : Mem} (h : f_X10_strain p1 p2 M = some (r, M')) : CT l shC P E yX10_strain bX10_strain 3 ((some .int)) 6 161 [.ref (P.2.2.1 0), .int p1, .int p2] (some (.int r)) M M' := by
  refine ct_of hW (by decide) (Nat.le_of_ble_eq_true rfl) (fun p e s m args below meth c C ls hl hw => ?_)
  have hx := C.1
  have hb := C.2.1
  replace hl : lv_has ls 3 [(0, .ref (P.2.2.1 0)), (1, .int p1), (2, .int p2)] := hl
  refine lv_aload_n hx hb dX10_strain_0 rfl (lv_at hl 0 rfl) ?_
  refine lv_iconst (v := 2) hx hb dX10_strain_1 (by decide) ?_
  refine lv_iload_n hx hb dX10_strain_2 rfl (lv_at hl 1 rfl) ?_
  refine lv_iload_n hx hb dX10_strain_3 rfl (lv_at hl 2 rfl) ?_
  obtain ⟨r1, M3, e2, h⟩ := bnd2_some h
  refine wcallV1 (As := [.int 2, .int p1, .int p2]) (rest := []) C hw (c_X10_ofPieceAt hW  e2) vlX10_168 ⟨Nat.le_of_ble_eq_true rfl, Nat.le_of_ble_eq_true rfl⟩ (rfl : _ = some (0, 10)) rfl rfl rfl hl.1 (Nat.le_of_ble_eq_true rfl) dX10_strain_4 ⟨Nat.zero_le _, Nat.zero_le _⟩ (fun H locs hw => ?_)
  exact wretI_W C hw h dX10_strain_7
set_option maxRecDepth 100000 in
set_option maxHeartbeats 4000000 in
theorem c_X10_peak {l : Launch} {P : Wp} {E : State → Heap → Prop} (hW : Wok shC P E) {p1 : Int32} {M : Mem} {r : Int32} {M' : Mem} (h : f_X10_peak p1 M = some (r, M')) : CT l shC P E yX10_peak bX10_peak 2 ((some .int)) 5 138 [.ref (P.2.2.1 0), .int p1] (some (.int r)) M M' := by
  refine ct_of hW (by decide) (Nat.le_of_ble_eq_true rfl) (fun p e s m args below meth c C ls hl hw => ?_)
  have hx := C.1
  have hb := C.2.1
  replace hl : lv_has ls 2 [(0, .ref (P.2.2.1 0)), (1, .int p1)] := hl
  refine lv_aload_n hx hb dX10_peak_0 rfl (lv_at hl 0 rfl) ?_
  refine wgetR (t := 13) C hw flX10_49 (rfl : _ = some (0, 10)) rfl dX10_peak_1 ?_
  refine wgetR (t := 14) C hw flX10_106 (rfl : _ = some (0, 1)) rfl dX10_peak_4 ?_
  refine lv_iload_n hx hb dX10_peak_7 rfl (lv_at hl 1 rfl) ?_
  refine wcallV1 (As := [.int p1]) (rest := []) C hw (c_X5_hasPiece hW (rfl : _ = some (0, 5)) rfl) vlX10_132 ⟨Nat.le_of_ble_eq_true rfl, Nat.le_of_ble_eq_true rfl⟩ (rfl : _ = some (0, 5)) rfl rfl rfl hl.1 (Nat.le_of_ble_eq_true rfl) dX10_peak_8 ⟨Nat.zero_le _, Nat.zero_le _⟩ (fun H locs hw => ?_)
  refine lv_if_eq (tgt := 25) hx hb dX10_peak_11 (by decide) (fun c1 => ?_) (fun c1 => ?_)
  · replace h := (if_pos c1).symm.trans h
    refine lv_bipush (v := (-2)) hx hb dX10_peak_25 (by decide) ?_
    exact wretI_W C hw h dX10_peak_27
  · replace h := (if_neg c1).symm.trans h
    refine lv_aload_n hx hb dX10_peak_14 rfl (lv_at hl 0 rfl) ?_
    obtain ⟨M4, e3, h⟩ := bnd_some h
    refine wcallV1 (As := []) (rest := []) C hw (c_X10_followedCourse hW  e3) vlX10_171 ⟨Nat.le_of_ble_eq_true rfl, Nat.le_of_ble_eq_true rfl⟩ (rfl : _ = some (0, 10)) rfl rfl rfl hl.1 (Nat.le_of_ble_eq_true rfl) dX10_peak_15 ⟨Nat.zero_le _, Nat.zero_le _⟩ (fun H locs hw => ?_)
    refine lv_iload_n hx hb dX10_peak_18 rfl (lv_at hl 1 rfl) ?_
    obtain ⟨r5, e6, h⟩ := bnd_some h
    refine wcallV1 (As := [.int p1]) (rest := []) C hw (c_X2_peakOf hW (rfl : _ = some (0, 2)) e6) vlX10_178 ⟨Nat.le_of_ble_eq_true rfl, Nat.le_of_ble_eq_true rfl⟩ (rfl : _ = some (0, 2)) rfl rfl rfl hl.1 (Nat.le_of_ble_eq_true rfl) dX10_peak_19 ⟨Nat.zero_le _, Nat.zero_le _⟩ (fun H locs hw => ?_)
    refine lv_goto (tgt := 27) hx hb dX10_peak_22 (by decide) ?_
    exact wretI_W C hw h dX10_peak_27
set_option maxRecDepth 100000 in
set_option maxHeartbeats 4000000 in
theorem c_X10_when {l : Launch} {P : Wp} {E : State → Heap → Prop} (hW : Wok shC P E) {p1 : Int32} {M : Mem} {r : Int32} {M' : Mem} (h : f_X10_when p1 M = some (r, M')) : CT l shC P E yX10_when bX10_when 2 ((some .int)) 5 138 [.ref (P.2.2.1 0), .int p1] (some (.int r)) M M' := by
  refine ct_of hW (by decide) (Nat.le_of_ble_eq_true rfl) (fun p e s m args below meth c C ls hl hw => ?_)
  have hx := C.1
  have hb := C.2.1
  replace hl : lv_has ls 2 [(0, .ref (P.2.2.1 0)), (1, .int p1)] := hl
  refine lv_aload_n hx hb dX10_when_0 rfl (lv_at hl 0 rfl) ?_
  refine wgetR (t := 13) C hw flX10_49 (rfl : _ = some (0, 10)) rfl dX10_when_1 ?_
  refine wgetR (t := 14) C hw flX10_106 (rfl : _ = some (0, 1)) rfl dX10_when_4 ?_
  refine lv_iload_n hx hb dX10_when_7 rfl (lv_at hl 1 rfl) ?_
  refine wcallV1 (As := [.int p1]) (rest := []) C hw (c_X5_hasPiece hW (rfl : _ = some (0, 5)) rfl) vlX10_132 ⟨Nat.le_of_ble_eq_true rfl, Nat.le_of_ble_eq_true rfl⟩ (rfl : _ = some (0, 5)) rfl rfl rfl hl.1 (Nat.le_of_ble_eq_true rfl) dX10_when_8 ⟨Nat.zero_le _, Nat.zero_le _⟩ (fun H locs hw => ?_)
  refine lv_if_eq (tgt := 25) hx hb dX10_when_11 (by decide) (fun c1 => ?_) (fun c1 => ?_)
  · replace h := (if_pos c1).symm.trans h
    refine lv_bipush (v := (-2)) hx hb dX10_when_25 (by decide) ?_
    exact wretI_W C hw h dX10_when_27
  · replace h := (if_neg c1).symm.trans h
    refine lv_aload_n hx hb dX10_when_14 rfl (lv_at hl 0 rfl) ?_
    obtain ⟨M4, e3, h⟩ := bnd_some h
    refine wcallV1 (As := []) (rest := []) C hw (c_X10_followedCourse hW  e3) vlX10_171 ⟨Nat.le_of_ble_eq_true rfl, Nat.le_of_ble_eq_true rfl⟩ (rfl : _ = some (0, 10)) rfl rfl rfl hl.1 (Nat.le_of_ble_eq_true rfl) dX10_when_15 ⟨Nat.zero_le _, Nat.zero_le _⟩ (fun H locs hw => ?_)
    refine lv_iload_n hx hb dX10_when_18 rfl (lv_at hl 1 rfl) ?_
    obtain ⟨r5, e6, h⟩ := bnd_some h
    refine wcallV1 (As := [.int p1]) (rest := []) C hw (c_X2_peakStepOf hW (rfl : _ = some (0, 2)) e6) vlX10_181 ⟨Nat.le_of_ble_eq_true rfl, Nat.le_of_ble_eq_true rfl⟩ (rfl : _ = some (0, 2)) rfl rfl rfl hl.1 (Nat.le_of_ble_eq_true rfl) dX10_when_19 ⟨Nat.zero_le _, Nat.zero_le _⟩ (fun H locs hw => ?_)
    refine lv_goto (tgt := 27) hx hb dX10_when_22 (by decide) ?_
    exact wretI_W C hw h dX10_when_27
set_option maxRecDepth 100000 in
set_option maxHeartbeats 4000000 in
theorem c_X10_frozen {l : Launch} {P : Wp} {E : State → Heap → Prop} (hW : Wok shC P E) {p1 : Int32} {M : Mem} {r : Int32} {M' : Mem} (h : f_X10_frozen p1 M = some (r, M')) : CT l shC P E yX10_frozen bX10_frozen 2 ((some .int)) 5 138 [.ref (P.2.2.1 0), .int p1] (some (.int r)) M M' := by
  refine ct_of hW (by decide) (Nat.le_of_ble_eq_true rfl) (fun p e s m args below meth c C ls hl hw => ?_)
  have hx := C.1
  have hb := C.2.1
  replace hl : lv_has ls 2 [(0, .ref (P.2.2.1 0)), (1, .int p1)] := hl
  refine lv_aload_n hx hb dX10_frozen_0 rfl (lv_at hl 0 rfl) ?_
  refine wgetR (t := 13) C hw flX10_49 (rfl : _ = some (0, 10)) rfl dX10_frozen_1 ?_
  refine wgetR (t := 14) C hw flX10_106 (rfl : _ = some (0, 1)) rfl dX10_frozen_4 ?_
  refine lv_iload_n hx hb dX10_frozen_7 rfl (lv_at hl 1 rfl) ?_
  refine wcallV1 (As := [.int p1]) (rest := []) C hw (c_X5_hasPiece hW (rfl : _ = some (0, 5)) rfl) vlX10_132 ⟨Nat.le_of_ble_eq_true rfl, Nat.le_of_ble_eq_true rfl⟩ (rfl : _ = some (0, 5)) rfl rfl rfl hl.1 (Nat.le_of_ble_eq_true rfl) dX10_frozen_8 ⟨Nat.zero_le _, Nat.zero_le _⟩ (fun H locs hw => ?_)
  refine lv_if_eq (tgt := 26) hx hb dX10_frozen_11 (by decide) (fun c1 => ?_) (fun c1 => ?_)
  · replace h := (if_pos c1).symm.trans h
    refine lv_bipush (v := (-2)) hx hb dX10_frozen_26 (by decide) ?_
    exact wretI_W C hw h dX10_frozen_28
  · replace h := (if_neg c1).symm.trans h
    refine lv_aload_n hx hb dX10_frozen_14 rfl (lv_at hl 0 rfl) ?_
    obtain ⟨M4, e3, h⟩ := bnd_some h
    refine wcallV1 (As := []) (rest := []) C hw (c_X10_followedCourse hW  e3) vlX10_171 ⟨Nat.le_of_ble_eq_true rfl, Nat.le_of_ble_eq_true rfl⟩ (rfl : _ = some (0, 10)) rfl rfl rfl hl.1 (Nat.le_of_ble_eq_true rfl) dX10_frozen_15 ⟨Nat.zero_le _, Nat.zero_le _⟩ (fun H locs hw => ?_)
    refine wgetR (t := 31) C hw flX10_184 (rfl : _ = some (0, 2)) rfl dX10_frozen_18 ?_
    refine lv_iload_n hx hb dX10_frozen_21 rfl (lv_at hl 1 rfl) ?_
    obtain ⟨g5, h⟩ := grd h
    refine wald C hw (rfl : _ = some (1, 6)) g5 dX10_frozen_22 ?_
    refine lv_goto (tgt := 28) hx hb dX10_frozen_23 (by decide) ?_
    exact wretI_W C hw h dX10_frozen_28
set_option maxRecDepth 100000 in
set_option maxHeartbeats 4000000 in
theorem c_X10_sets {l : Launch} {P : Wp} {E : State → Heap → Prop} (hW : Wok shC P E) {p1 : Int32} {M : Mem} {r : Int32} {M' : Mem} (h : f_X10_sets p1 M = some (r, M')) : CT l shC P E yX10_sets bX10_sets 2 ((some .int)) 5 138 [.ref (P.2.2.1 0), .int p1] (some (.int r)) M M' := by
  refine ct_of hW (by decide) (Nat.le_of_ble_eq_true rfl) (fun p e s m args below meth c C ls hl hw => ?_)
  have hx := C.1
  have hb := C.2.1
  replace hl : lv_has ls 2 [(0, .ref (P.2.2.1 0)), (1, .int p1)] := hl
  refine lv_aload_n hx hb dX10_sets_0 rfl (lv_at hl 0 rfl) ?_
  refine wgetR (t := 13) C hw flX10_49 (rfl : _ = some (0, 10)) rfl dX10_sets_1 ?_
  refine wgetR (t := 14) C hw flX10_106 (rfl : _ = some (0, 1)) rfl dX10_sets_4 ?_
  refine lv_iload_n hx hb dX10_sets_7 rfl (lv_at hl 1 rfl) ?_
  refine wcallV1 (As := [.int p1]) (rest := []) C hw (c_X5_hasPiece hW (rfl : _ = some (0, 5)) rfl) vlX10_132 ⟨Nat.le_of_ble_eq_true rfl, Nat.le_of_ble_eq_true rfl⟩ (rfl : _ = some (0, 5)) rfl rfl rfl hl.1 (Nat.le_of_ble_eq_true rfl) dX10_sets_8 ⟨Nat.zero_le _, Nat.zero_le _⟩ (fun H locs hw => ?_)
  refine lv_if_eq (tgt := 26) hx hb dX10_sets_11 (by decide) (fun c1 => ?_) (fun c1 => ?_)
  · replace h := (if_pos c1).symm.trans h
    refine lv_bipush (v := (-2)) hx hb dX10_sets_26 (by decide) ?_
    exact wretI_W C hw h dX10_sets_28
  · replace h := (if_neg c1).symm.trans h
    refine lv_aload_n hx hb dX10_sets_14 rfl (lv_at hl 0 rfl) ?_
    obtain ⟨M4, e3, h⟩ := bnd_some h
    refine wcallV1 (As := []) (rest := []) C hw (c_X10_followedCourse hW  e3) vlX10_171 ⟨Nat.le_of_ble_eq_true rfl, Nat.le_of_ble_eq_true rfl⟩ (rfl : _ = some (0, 10)) rfl rfl rfl hl.1 (Nat.le_of_ble_eq_true rfl) dX10_sets_15 ⟨Nat.zero_le _, Nat.zero_le _⟩ (fun H locs hw => ?_)
    refine wgetR (t := 32) C hw flX10_187 (rfl : _ = some (0, 2)) rfl dX10_sets_18 ?_
    refine lv_iload_n hx hb dX10_sets_21 rfl (lv_at hl 1 rfl) ?_
    obtain ⟨g5, h⟩ := grd h
    refine wald C hw (rfl : _ = some (1, 6)) g5 dX10_sets_22 ?_
    refine lv_goto (tgt := 28) hx hb dX10_sets_23 (by decide) ?_
    exact wretI_W C hw h dX10_sets_28
set_option maxRecDepth 100000 in
set_option maxHeartbeats 4000000 in
theorem c_X10_cracks {l : Launch} {P : Wp} {E : State → Heap → Prop} (hW : Wok shC P E) {p1 : Int32} {M : Mem} {r : Int32} {M' : Mem} (h : f_X10_cracks p1 M = some (r, M')) : CT l shC P E yX10_cracks bX10_cracks 2 ((some .int)) 5 138 [.ref (P.2.2.1 0), .int p1] (some (.int r)) M M' := by
  refine ct_of hW (by decide) (Nat.le_of_ble_eq_true rfl) (fun p e s m args below meth c C ls hl hw => ?_)
  have hx := C.1
  have hb := C.2.1
  replace hl : lv_has ls 2 [(0, .ref (P.2.2.1 0)), (1, .int p1)] := hl
  refine lv_aload_n hx hb dX10_cracks_0 rfl (lv_at hl 0 rfl) ?_
  refine wgetR (t := 13) C hw flX10_49 (rfl : _ = some (0, 10)) rfl dX10_cracks_1 ?_
  refine wgetR (t := 14) C hw flX10_106 (rfl : _ = some (0, 1)) rfl dX10_cracks_4 ?_
  refine lv_iload_n hx hb dX10_cracks_7 rfl (lv_at hl 1 rfl) ?_
  refine wcallV1 (As := [.int p1]) (rest := []) C hw (c_X5_hasPiece hW (rfl : _ = some (0, 5)) rfl) vlX10_132 ⟨Nat.le_of_ble_eq_true rfl, Nat.le_of_ble_eq_true rfl⟩ (rfl : _ = some (0, 5)) rfl rfl rfl hl.1 (Nat.le_of_ble_eq_true rfl) dX10_cracks_8 ⟨Nat.zero_le _, Nat.zero_le _⟩ (fun H locs hw => ?_)
  refine lv_if_eq (tgt := 26) hx hb dX10_cracks_11 (by decide) (fun c1 => ?_) (fun c1 => ?_)
  · replace h := (if_pos c1).symm.trans h
    refine lv_bipush (v := (-2)) hx hb dX10_cracks_26 (by decide) ?_
    exact wretI_W C hw h dX10_cracks_28
  · replace h := (if_neg c1).symm.trans h
    refine lv_aload_n hx hb dX10_cracks_14 rfl (lv_at hl 0 rfl) ?_
    obtain ⟨M4, e3, h⟩ := bnd_some h
    refine wcallV1 (As := []) (rest := []) C hw (c_X10_followedCourse hW  e3) vlX10_171 ⟨Nat.le_of_ble_eq_true rfl, Nat.le_of_ble_eq_true rfl⟩ (rfl : _ = some (0, 10)) rfl rfl rfl hl.1 (Nat.le_of_ble_eq_true rfl) dX10_cracks_15 ⟨Nat.zero_le _, Nat.zero_le _⟩ (fun H locs hw => ?_)
    refine wgetR (t := 29) C hw flX10_190 (rfl : _ = some (0, 2)) rfl dX10_cracks_18 ?_
    refine lv_iload_n hx hb dX10_cracks_21 rfl (lv_at hl 1 rfl) ?_
    obtain ⟨g5, h⟩ := grd h
    refine wald C hw (rfl : _ = some (1, 6)) g5 dX10_cracks_22 ?_
    refine lv_goto (tgt := 28) hx hb dX10_cracks_23 (by decide) ?_
    exact wretI_W C hw h dX10_cracks_28
set_option maxRecDepth 100000 in
set_option maxHeartbeats 4000000 in
theorem c_X10_why {l : Launch} {P : Wp} {E : State → Heap → Prop} (hW : Wok shC P E) {p1 : Int32} {M : Mem} {r : Int32} {M' : Mem} (h : f_X10_why p1 M = some (r, M')) : CT l shC P E yX10_why bX10_why 2 ((some .int)) 5 138 [.ref (P.2.2.1 0), .int p1] (some (.int r)) M M' := by
  refine ct_of hW (by decide) (Nat.le_of_ble_eq_true rfl) (fun p e s m args below meth c C ls hl hw => ?_)
  have hx := C.1
  have hb := C.2.1
  replace hl : lv_has ls 2 [(0, .ref (P.2.2.1 0)), (1, .int p1)] := hl
  refine lv_aload_n hx hb dX10_why_0 rfl (lv_at hl 0 rfl) ?_
  refine wgetR (t := 13) C hw flX10_49 (rfl : _ = some (0, 10)) rfl dX10_why_1 ?_
  refine wgetR (t := 14) C hw flX10_106 (rfl : _ = some (0, 1)) rfl dX10_why_4 ?_
  refine lv_iload_n hx hb dX10_why_7 rfl (lv_at hl 1 rfl) ?_
  refine wcallV1 (As := [.int p1]) (rest := []) C hw (c_X5_hasPiece hW (rfl : _ = some (0, 5)) rfl) vlX10_132 ⟨Nat.le_of_ble_eq_true rfl, Nat.le_of_ble_eq_true rfl⟩ (rfl : _ = some (0, 5)) rfl rfl rfl hl.1 (Nat.le_of_ble_eq_true rfl) dX10_why_8 ⟨Nat.zero_le _, Nat.zero_le _⟩ (fun H locs hw => ?_)
  refine lv_if_eq (tgt := 26) hx hb dX10_why_11 (by decide) (fun c1 => ?_) (fun c1 => ?_)
  · replace h := (if_pos c1).symm.trans h
    refine lv_bipush (v := (-2)) hx hb dX10_why_26 (by decide) ?_
    exact wretI_W C hw h dX10_why_28
  · replace h := (if_neg c1).symm.trans h
    refine lv_aload_n hx hb dX10_why_14 rfl (lv_at hl 0 rfl) ?_
    obtain ⟨M4, e3, h⟩ := bnd_some h
    refine wcallV1 (As := []) (rest := []) C hw (c_X10_followedCourse hW  e3) vlX10_171 ⟨Nat.le_of_ble_eq_true rfl, Nat.le_of_ble_eq_true rfl⟩ (rfl : _ = some (0, 10)) rfl rfl rfl hl.1 (Nat.le_of_ble_eq_true rfl) dX10_why_15 ⟨Nat.zero_le _, Nat.zero_le _⟩ (fun H locs hw => ?_)
    refine wgetR (t := 30) C hw flX10_193 (rfl : _ = some (0, 2)) rfl dX10_why_18 ?_
    refine lv_iload_n hx hb dX10_why_21 rfl (lv_at hl 1 rfl) ?_
    obtain ⟨g5, h⟩ := grd h
    refine wald C hw (rfl : _ = some (1, 6)) g5 dX10_why_22 ?_
    refine lv_goto (tgt := 28) hx hb dX10_why_23 (by decide) ?_
    exact wretI_W C hw h dX10_why_28
set_option maxRecDepth 100000 in
set_option maxHeartbeats 4000000 in
theorem c_X10_whole {l : Launch} {P : Wp} {E : State → Heap → Prop} (hW : Wok shC P E) {p1 : Int32} {M : Mem} {r : Int32} {M' : Mem} (h : f_X10_whole p1 M = some (r, M')) : CT l shC P E yX10_whole bX10_whole 2 ((some .int)) 5 138 [.ref (P.2.2.1 0), .int p1] (some (.int r)) M M' := by
  refine ct_of hW (by decide) (Nat.le_of_ble_eq_true rfl) (fun p e s m args below meth c C ls hl hw => ?_)
  have hx := C.1
  have hb := C.2.1
  replace hl : lv_has ls 2 [(0, .ref (P.2.2.1 0)), (1, .int p1)] := hl
  refine lv_aload_n hx hb dX10_whole_0 rfl (lv_at hl 0 rfl) ?_
  refine wgetR (t := 13) C hw flX10_49 (rfl : _ = some (0, 10)) rfl dX10_whole_1 ?_
  refine wgetR (t := 14) C hw flX10_106 (rfl : _ = some (0, 1)) rfl dX10_whole_4 ?_
  refine lv_iload_n hx hb dX10_whole_7 rfl (lv_at hl 1 rfl) ?_
  refine wcallV1 (As := [.int p1]) (rest := []) C hw (c_X5_hasStep hW (rfl : _ = some (0, 5)) rfl) vlX10_147 ⟨Nat.le_of_ble_eq_true rfl, Nat.le_of_ble_eq_true rfl⟩ (rfl : _ = some (0, 5)) rfl rfl rfl hl.1 (Nat.le_of_ble_eq_true rfl) dX10_whole_8 ⟨Nat.zero_le _, Nat.zero_le _⟩ (fun H locs hw => ?_)
  refine lv_if_ne (tgt := 17) hx hb dX10_whole_11 (by decide) (fun c1 => ?_) (fun c1 => ?_)
  · replace h := (if_neg c1).symm.trans h
    refine lv_aload_n hx hb dX10_whole_17 rfl (lv_at hl 0 rfl) ?_
    refine wgetR (t := 13) C hw flX10_49 (rfl : _ = some (0, 10)) rfl dX10_whole_18 ?_
    refine wgetR (t := 14) C hw flX10_106 (rfl : _ = some (0, 1)) rfl dX10_whole_21 ?_
    refine lv_iload_n hx hb dX10_whole_24 rfl (lv_at hl 1 rfl) ?_
    obtain ⟨r2, e3, h⟩ := bnd_some h
    refine wcallV1 (As := [.int p1]) (rest := []) C hw (c_X5_comeBy hW (rfl : _ = some (0, 5)) e3) vlX10_196 ⟨Nat.le_of_ble_eq_true rfl, Nat.le_of_ble_eq_true rfl⟩ (rfl : _ = some (0, 5)) rfl rfl rfl hl.1 (Nat.le_of_ble_eq_true rfl) dX10_whole_25 ⟨Nat.zero_le _, Nat.zero_le _⟩ (fun H locs hw => ?_)
    refine lv_aload_n hx hb dX10_whole_28 rfl (lv_at hl 0 rfl) ?_
    obtain ⟨M6, e5, h⟩ := bnd_some h
    refine wcallV1 (As := []) (rest := [.int r2]) C hw (c_X10_followedCourse hW  e5) vlX10_171 ⟨Nat.le_of_ble_eq_true rfl, Nat.le_of_ble_eq_true rfl⟩ (rfl : _ = some (0, 10)) rfl rfl rfl hl.1 (Nat.le_of_ble_eq_true rfl) dX10_whole_29 ⟨Nat.zero_le _, Nat.zero_le _⟩ (fun H locs hw => ?_)
    refine lv_iload_n hx hb dX10_whole_32 rfl (lv_at hl 1 rfl) ?_
    obtain ⟨r7, e8, h⟩ := bnd_some h
    refine wcallV1 (As := [.int p1]) (rest := [.int r2]) C hw (c_X2_uncrackedAt hW (rfl : _ = some (0, 2)) e8) vlX10_199 ⟨Nat.le_of_ble_eq_true rfl, Nat.le_of_ble_eq_true rfl⟩ (rfl : _ = some (0, 2)) rfl rfl rfl hl.1 (Nat.le_of_ble_eq_true rfl) dX10_whole_33 ⟨Nat.zero_le _, Nat.zero_le _⟩ (fun H locs hw => ?_)
    refine lv_iand hx hb dX10_whole_36 ?_
    exact wretI_W C hw h dX10_whole_37
  · replace h := (if_pos c1).symm.trans h
    refine lv_bipush (v := (-2)) hx hb dX10_whole_14 (by decide) ?_
    exact wretI_W C hw h dX10_whole_16
set_option maxRecDepth 100000 in
set_option maxHeartbeats 4000000 in
theorem c_X10_sound {l : Launch} {P : Wp} {E : State → Heap → Prop} (hW : Wok shC P E) {M : Mem} {r : Int32} {M' : Mem} (h : f_X10_sound M = some (r, M')) : CT l shC P E yX10_sound bX10_sound 1 ((some .int)) 5 138 [.ref (P.2.2.1 0)] (some (.int r)) M M' := by
  refine ct_of hW (by decide) (Nat.le_of_ble_eq_true rfl) (fun p e s m args below meth c C ls hl hw => ?_)
  have hx := C.1
  have hb := C.2.1
  replace hl : lv_has ls 1 [(0, .ref (P.2.2.1 0))] := hl
  refine lv_aload_n hx hb dX10_sound_0 rfl (lv_at hl 0 rfl) ?_
  refine wgetR (t := 13) C hw flX10_49 (rfl : _ = some (0, 10)) rfl dX10_sound_1 ?_
  refine wgetR (t := 14) C hw flX10_106 (rfl : _ = some (0, 1)) rfl dX10_sound_4 ?_
  refine wcallV1 (As := []) (rest := []) C hw (c_X5_isTold hW (rfl : _ = some (0, 5)) rfl) vlX10_202 ⟨Nat.le_of_ble_eq_true rfl, Nat.le_of_ble_eq_true rfl⟩ (rfl : _ = some (0, 5)) rfl rfl rfl hl.1 (Nat.le_of_ble_eq_true rfl) dX10_sound_7 ⟨Nat.zero_le _, Nat.zero_le _⟩ (fun H locs hw => ?_)
  refine lv_if_eq (tgt := 23) hx hb dX10_sound_10 (by decide) (fun c1 => ?_) (fun c1 => ?_)
  · replace h := (if_pos c1).symm.trans h
    refine lv_bipush (v := (-2)) hx hb dX10_sound_23 (by decide) ?_
    exact wretI_W C hw h dX10_sound_25
  · replace h := (if_neg c1).symm.trans h
    refine lv_aload_n hx hb dX10_sound_13 rfl (lv_at hl 0 rfl) ?_
    obtain ⟨M4, e3, h⟩ := bnd_some h
    refine wcallV1 (As := []) (rest := []) C hw (c_X10_followedCourse hW  e3) vlX10_171 ⟨Nat.le_of_ble_eq_true rfl, Nat.le_of_ble_eq_true rfl⟩ (rfl : _ = some (0, 10)) rfl rfl rfl hl.1 (Nat.le_of_ble_eq_true rfl) dX10_sound_14 ⟨Nat.zero_le _, Nat.zero_le _⟩ (fun H locs hw => ?_)
    obtain ⟨r5, e6, h⟩ := bnd_some h
    refine wcallV1 (As := []) (rest := []) C hw (c_X2_neverCracked hW (rfl : _ = some (0, 2)) e6) vlX10_206 ⟨Nat.le_of_ble_eq_true rfl, Nat.le_of_ble_eq_true rfl⟩ (rfl : _ = some (0, 2)) rfl rfl rfl hl.1 (Nat.le_of_ble_eq_true rfl) dX10_sound_17 ⟨Nat.zero_le _, Nat.zero_le _⟩ (fun H locs hw => ?_)
    refine lv_goto (tgt := 25) hx hb dX10_sound_20 (by decide) ?_
    exact wretI_W C hw h dX10_sound_25
set_option maxRecDepth 100000 in
set_option maxHeartbeats 4000000 in
theorem c_X10_good {l : Launch} {P : Wp} {E : State → Heap → Prop} (hW : Wok shC P E) {M : Mem} {r : Int32} {M' : Mem} (h : f_X10_good M = some (r, M')) : CT l shC P E yX10_good bX10_good 1 ((some .int)) 5 138 [.ref (P.2.2.1 0)] (some (.int r)) M M' := by
  refine ct_of hW (by decide) (Nat.le_of_ble_eq_true rfl) (fun p e s m args below meth c C ls hl hw => ?_)
  have hx := C.1
  have hb := C.2.1
  replace hl : lv_has ls 1 [(0, .ref (P.2.2.1 0))] := hl
  refine lv_aload_n hx hb dX10_good_0 rfl (lv_at hl 0 rfl) ?_
  refine wgetR (t := 13) C hw flX10_49 (rfl : _ = some (0, 10)) rfl dX10_good_1 ?_
  refine wgetR (t := 14) C hw flX10_106 (rfl : _ = some (0, 1)) rfl dX10_good_4 ?_
  refine wcallV1 (As := []) (rest := []) C hw (c_X5_isTold hW (rfl : _ = some (0, 5)) rfl) vlX10_202 ⟨Nat.le_of_ble_eq_true rfl, Nat.le_of_ble_eq_true rfl⟩ (rfl : _ = some (0, 5)) rfl rfl rfl hl.1 (Nat.le_of_ble_eq_true rfl) dX10_good_7 ⟨Nat.zero_le _, Nat.zero_le _⟩ (fun H locs hw => ?_)
  refine lv_if_ne (tgt := 16) hx hb dX10_good_10 (by decide) (fun c1 => ?_) (fun c1 => ?_)
  · replace h := (if_neg c1).symm.trans h
    refine lv_aload_n hx hb dX10_good_16 rfl (lv_at hl 0 rfl) ?_
    refine wgetR (t := 13) C hw flX10_49 (rfl : _ = some (0, 10)) rfl dX10_good_17 ?_
    refine wgetR (t := 14) C hw flX10_106 (rfl : _ = some (0, 1)) rfl dX10_good_20 ?_
    refine lv_bipush (v := 10) hx hb dX10_good_23 (by decide) ?_
    refine lv_aload_n hx hb dX10_good_25 rfl (lv_at hl 0 rfl) ?_
    refine wgetR (t := 13) C hw flX10_49 (rfl : _ = some (0, 10)) rfl dX10_good_26 ?_
    refine wgetR (t := 14) C hw flX10_106 (rfl : _ = some (0, 1)) rfl dX10_good_29 ?_
    refine wgetI C hw flX10_210 (rfl : _ = some (0, 5)) dX10_good_32 ?_
    obtain ⟨r2, e3, h⟩ := bnd_some h
    refine wcallV1 (As := [.int 10, .int (M.1 14 1)]) (rest := []) C hw (c_X5_piecesAt hW (rfl : _ = some (0, 5)) e3) vlX10_161 ⟨Nat.le_of_ble_eq_true rfl, Nat.le_of_ble_eq_true rfl⟩ (rfl : _ = some (0, 5)) rfl rfl rfl hl.1 (Nat.le_of_ble_eq_true rfl) dX10_good_35 ⟨Nat.zero_le _, Nat.zero_le _⟩ (fun H locs hw => ?_)
    refine lv_aload_n hx hb dX10_good_38 rfl (lv_at hl 0 rfl) ?_
    obtain ⟨M6, e5, h⟩ := bnd_some h
    refine wcallV1 (As := []) (rest := [.int r2]) C hw (c_X10_followedCourse hW  e5) vlX10_171 ⟨Nat.le_of_ble_eq_true rfl, Nat.le_of_ble_eq_true rfl⟩ (rfl : _ = some (0, 10)) rfl rfl rfl hl.1 (Nat.le_of_ble_eq_true rfl) dX10_good_39 ⟨Nat.zero_le _, Nat.zero_le _⟩ (fun H locs hw => ?_)
    obtain ⟨r7, e8, h⟩ := bnd_some h
    refine wcallV1 (As := []) (rest := [.int r2]) C hw (c_X2_neverCracked hW (rfl : _ = some (0, 2)) e8) vlX10_206 ⟨Nat.le_of_ble_eq_true rfl, Nat.le_of_ble_eq_true rfl⟩ (rfl : _ = some (0, 2)) rfl rfl rfl hl.1 (Nat.le_of_ble_eq_true rfl) dX10_good_42 ⟨Nat.zero_le _, Nat.zero_le _⟩ (fun H locs hw => ?_)
    refine lv_iand hx hb dX10_good_45 ?_
    exact wretI_W C hw h dX10_good_46
  · replace h := (if_pos c1).symm.trans h
    refine lv_bipush (v := (-2)) hx hb dX10_good_13 (by decide) ?_
    exact wretI_W C hw h dX10_good_15
set_option maxRecDepth 100000 in
set_option maxHeartbeats 4000000 in
theorem c_X10_tight {l : Launch} {P : Wp} {E : State → Heap → Prop} (hW : Wok shC P E) {p1 : Int32} {M : Mem} {r : Int32} {M' : Mem} (h : f_X10_tight p1 M = some (r, M')) : CT l shC P E yX10_tight bX10_tight 2 ((some .int)) 5 138 [.ref (P.2.2.1 0), .int p1] (some (.int r)) M M' := by
  refine ct_of hW (by decide) (Nat.le_of_ble_eq_true rfl) (fun p e s m args below meth c C ls hl hw => ?_)
  have hx := C.1
  have hb := C.2.1
  replace hl : lv_has ls 2 [(0, .ref (P.2.2.1 0)), (1, .int p1)] := hl
  refine lv_aload_n hx hb dX10_tight_0 rfl (lv_at hl 0 rfl) ?_
  refine wgetR (t := 13) C hw flX10_49 (rfl : _ = some (0, 10)) rfl dX10_tight_1 ?_
  refine wgetR (t := 14) C hw flX10_106 (rfl : _ = some (0, 1)) rfl dX10_tight_4 ?_
  refine lv_iload_n hx hb dX10_tight_7 rfl (lv_at hl 1 rfl) ?_
  refine wcallV1 (As := [.int p1]) (rest := []) C hw (c_X5_hasStep hW (rfl : _ = some (0, 5)) rfl) vlX10_147 ⟨Nat.le_of_ble_eq_true rfl, Nat.le_of_ble_eq_true rfl⟩ (rfl : _ = some (0, 5)) rfl rfl rfl hl.1 (Nat.le_of_ble_eq_true rfl) dX10_tight_8 ⟨Nat.zero_le _, Nat.zero_le _⟩ (fun H locs hw => ?_)
  refine lv_if_eq (tgt := 26) hx hb dX10_tight_11 (by decide) (fun c1 => ?_) (fun c1 => ?_)
  · replace h := (if_pos c1).symm.trans h
    refine lv_bipush (v := (-2)) hx hb dX10_tight_26 (by decide) ?_
    exact wretI_W C hw h dX10_tight_28
  · replace h := (if_neg c1).symm.trans h
    refine lv_aload_n hx hb dX10_tight_14 rfl (lv_at hl 0 rfl) ?_
    obtain ⟨M4, e3, h⟩ := bnd_some h
    refine wcallV1 (As := []) (rest := []) C hw (c_X10_followedCourse hW  e3) vlX10_171 ⟨Nat.le_of_ble_eq_true rfl, Nat.le_of_ble_eq_true rfl⟩ (rfl : _ = some (0, 10)) rfl rfl rfl hl.1 (Nat.le_of_ble_eq_true rfl) dX10_tight_15 ⟨Nat.zero_le _, Nat.zero_le _⟩ (fun H locs hw => ?_)
    refine lv_iconst (v := 2) hx hb dX10_tight_18 (by decide) ?_
    refine lv_iload_n hx hb dX10_tight_19 rfl (lv_at hl 1 rfl) ?_
    obtain ⟨r5, e6, h⟩ := bnd_some h
    refine wcallV1 (As := [.int 2, .int p1]) (rest := []) C hw (c_X2_mostOf hW (rfl : _ = some (0, 2)) e6) vlX10_213 ⟨Nat.le_of_ble_eq_true rfl, Nat.le_of_ble_eq_true rfl⟩ (rfl : _ = some (0, 2)) rfl rfl rfl hl.1 (Nat.le_of_ble_eq_true rfl) dX10_tight_20 ⟨Nat.zero_le _, Nat.zero_le _⟩ (fun H locs hw => ?_)
    refine lv_goto (tgt := 28) hx hb dX10_tight_23 (by decide) ?_
    exact wretI_W C hw h dX10_tight_28
set_option maxRecDepth 100000 in
set_option maxHeartbeats 4000000 in
theorem c_X10_hottest {l : Launch} {P : Wp} {E : State → Heap → Prop} (hW : Wok shC P E) {p1 : Int32} {M : Mem} {r : Int32} {M' : Mem} (h : f_X10_hottest p1 M = some (r, M')) : CT l shC P E yX10_hottest bX10_hottest 2 ((some .int)) 5 138 [.ref (P.2.2.1 0), .int p1] (some (.int r)) M M' := by
  refine ct_of hW (by decide) (Nat.le_of_ble_eq_true rfl) (fun p e s m args below meth c C ls hl hw => ?_)
  have hx := C.1
  have hb := C.2.1
  replace hl : lv_has ls 2 [(0, .ref (P.2.2.1 0)), (1, .int p1)] := hl
  refine lv_aload_n hx hb dX10_hottest_0 rfl (lv_at hl 0 rfl) ?_
  refine wgetR (t := 13) C hw flX10_49 (rfl : _ = some (0, 10)) rfl dX10_hottest_1 ?_
  refine wgetR (t := 14) C hw flX10_106 (rfl : _ = some (0, 1)) rfl dX10_hottest_4 ?_
  refine lv_iload_n hx hb dX10_hottest_7 rfl (lv_at hl 1 rfl) ?_
  refine wcallV1 (As := [.int p1]) (rest := []) C hw (c_X5_hasStep hW (rfl : _ = some (0, 5)) rfl) vlX10_147 ⟨Nat.le_of_ble_eq_true rfl, Nat.le_of_ble_eq_true rfl⟩ (rfl : _ = some (0, 5)) rfl rfl rfl hl.1 (Nat.le_of_ble_eq_true rfl) dX10_hottest_8 ⟨Nat.zero_le _, Nat.zero_le _⟩ (fun H locs hw => ?_)
  refine lv_if_eq (tgt := 26) hx hb dX10_hottest_11 (by decide) (fun c1 => ?_) (fun c1 => ?_)
  · replace h := (if_pos c1).symm.trans h
    refine lv_bipush (v := (-2)) hx hb dX10_hottest_26 (by decide) ?_
    exact wretI_W C hw h dX10_hottest_28
  · replace h := (if_neg c1).symm.trans h
    refine lv_aload_n hx hb dX10_hottest_14 rfl (lv_at hl 0 rfl) ?_
    obtain ⟨M4, e3, h⟩ := bnd_some h
    refine wcallV1 (As := []) (rest := []) C hw (c_X10_followedCourse hW  e3) vlX10_171 ⟨Nat.le_of_ble_eq_true rfl, Nat.le_of_ble_eq_true rfl⟩ (rfl : _ = some (0, 10)) rfl rfl rfl hl.1 (Nat.le_of_ble_eq_true rfl) dX10_hottest_15 ⟨Nat.zero_le _, Nat.zero_le _⟩ (fun H locs hw => ?_)
    refine lv_iconst (v := 0) hx hb dX10_hottest_18 (by decide) ?_
    refine lv_iload_n hx hb dX10_hottest_19 rfl (lv_at hl 1 rfl) ?_
    obtain ⟨r5, e6, h⟩ := bnd_some h
    refine wcallV1 (As := [.int 0, .int p1]) (rest := []) C hw (c_X2_mostOf hW (rfl : _ = some (0, 2)) e6) vlX10_213 ⟨Nat.le_of_ble_eq_true rfl, Nat.le_of_ble_eq_true rfl⟩ (rfl : _ = some (0, 2)) rfl rfl rfl hl.1 (Nat.le_of_ble_eq_true rfl) dX10_hottest_20 ⟨Nat.zero_le _, Nat.zero_le _⟩ (fun H locs hw => ?_)
    refine lv_goto (tgt := 28) hx hb dX10_hottest_23 (by decide) ?_
    exact wretI_W C hw h dX10_hottest_28
set_option maxRecDepth 100000 in
set_option maxHeartbeats 4000000 in
theorem c_X10_glow {l : Launch} {P : Wp} {E : State → Heap → Prop} (hW : Wok shC P E) {p1 : Int32} {M : Mem} {r : Int32} {M' : Mem} (h : f_X10_glow p1 M = some (r, M')) : CT l shC P E yX10_glow bX10_glow 2 ((some .int)) 5 138 [.ref (P.2.2.1 0), .int p1] (some (.int r)) M M' := by
  refine ct_of hW (by decide) (Nat.le_of_ble_eq_true rfl) (fun p e s m args below meth c C ls hl hw => ?_)
  have hx := C.1
  have hb := C.2.1
  replace hl : lv_has ls 2 [(0, .ref (P.2.2.1 0)), (1, .int p1)] := hl
  refine lv_aload_n hx hb dX10_glow_0 rfl (lv_at hl 0 rfl) ?_
  refine wgetR (t := 13) C hw flX10_49 (rfl : _ = some (0, 10)) rfl dX10_glow_1 ?_
  refine wgetR (t := 14) C hw flX10_106 (rfl : _ = some (0, 1)) rfl dX10_glow_4 ?_
  refine lv_iload_n hx hb dX10_glow_7 rfl (lv_at hl 1 rfl) ?_
  refine wcallV1 (As := [.int p1]) (rest := []) C hw (c_X5_hasStep hW (rfl : _ = some (0, 5)) rfl) vlX10_147 ⟨Nat.le_of_ble_eq_true rfl, Nat.le_of_ble_eq_true rfl⟩ (rfl : _ = some (0, 5)) rfl rfl rfl hl.1 (Nat.le_of_ble_eq_true rfl) dX10_glow_8 ⟨Nat.zero_le _, Nat.zero_le _⟩ (fun H locs hw => ?_)
  refine lv_if_eq (tgt := 25) hx hb dX10_glow_11 (by decide) (fun c1 => ?_) (fun c1 => ?_)
  · replace h := (if_pos c1).symm.trans h
    refine lv_bipush (v := (-2)) hx hb dX10_glow_25 (by decide) ?_
    exact wretI_W C hw h dX10_glow_27
  · replace h := (if_neg c1).symm.trans h
    refine lv_aload_n hx hb dX10_glow_14 rfl (lv_at hl 0 rfl) ?_
    obtain ⟨M4, e3, h⟩ := bnd_some h
    refine wcallV1 (As := []) (rest := []) C hw (c_X10_followedCourse hW  e3) vlX10_171 ⟨Nat.le_of_ble_eq_true rfl, Nat.le_of_ble_eq_true rfl⟩ (rfl : _ = some (0, 10)) rfl rfl rfl hl.1 (Nat.le_of_ble_eq_true rfl) dX10_glow_15 ⟨Nat.zero_le _, Nat.zero_le _⟩ (fun H locs hw => ?_)
    refine lv_iload_n hx hb dX10_glow_18 rfl (lv_at hl 1 rfl) ?_
    obtain ⟨r5, e6, h⟩ := bnd_some h
    refine wcallV1 (As := [.int p1]) (rest := []) C hw (c_X2_skinsTogether hW (rfl : _ = some (0, 2)) e6) vlX10_216 ⟨Nat.le_of_ble_eq_true rfl, Nat.le_of_ble_eq_true rfl⟩ (rfl : _ = some (0, 2)) rfl rfl rfl hl.1 (Nat.le_of_ble_eq_true rfl) dX10_glow_19 ⟨Nat.zero_le _, Nat.zero_le _⟩ (fun H locs hw => ?_)
    refine lv_goto (tgt := 27) hx hb dX10_glow_22 (by decide) ?_
    exact wretI_W C hw h dX10_glow_27
set_option maxRecDepth 100000 in
set_option maxHeartbeats 4000000 in
theorem c_X10_worst {l : Launch} {P : Wp} {E : State → Heap → Prop} (hW : Wok shC P E) {M : Mem} {r : Int32} {M' : Mem} (h : f_X10_worst M = some (r, M')) : CT l shC P E yX10_worst bX10_worst 1 ((some .int)) 5 138 [.ref (P.2.2.1 0)] (some (.int r)) M M' := by
  refine ct_of hW (by decide) (Nat.le_of_ble_eq_true rfl) (fun p e s m args below meth c C ls hl hw => ?_)
  have hx := C.1
  have hb := C.2.1
  replace hl : lv_has ls 1 [(0, .ref (P.2.2.1 0))] := hl
  refine lv_aload_n hx hb dX10_worst_0 rfl (lv_at hl 0 rfl) ?_
  refine wgetR (t := 13) C hw flX10_49 (rfl : _ = some (0, 10)) rfl dX10_worst_1 ?_
  refine wgetR (t := 14) C hw flX10_106 (rfl : _ = some (0, 1)) rfl dX10_worst_4 ?_
  refine wcallV1 (As := []) (rest := []) C hw (c_X5_isTold hW (rfl : _ = some (0, 5)) rfl) vlX10_202 ⟨Nat.le_of_ble_eq_true rfl, Nat.le_of_ble_eq_true rfl⟩ (rfl : _ = some (0, 5)) rfl rfl rfl hl.1 (Nat.le_of_ble_eq_true rfl) dX10_worst_7 ⟨Nat.zero_le _, Nat.zero_le _⟩ (fun H locs hw => ?_)
  refine lv_if_eq (tgt := 23) hx hb dX10_worst_10 (by decide) (fun c1 => ?_) (fun c1 => ?_)
  · replace h := (if_pos c1).symm.trans h
    refine lv_bipush (v := (-2)) hx hb dX10_worst_23 (by decide) ?_
    exact wretI_W C hw h dX10_worst_25
  · replace h := (if_neg c1).symm.trans h
    refine lv_aload_n hx hb dX10_worst_13 rfl (lv_at hl 0 rfl) ?_
    obtain ⟨M4, e3, h⟩ := bnd_some h
    refine wcallV1 (As := []) (rest := []) C hw (c_X10_followedCourse hW  e3) vlX10_171 ⟨Nat.le_of_ble_eq_true rfl, Nat.le_of_ble_eq_true rfl⟩ (rfl : _ = some (0, 10)) rfl rfl rfl hl.1 (Nat.le_of_ble_eq_true rfl) dX10_worst_14 ⟨Nat.zero_le _, Nat.zero_le _⟩ (fun H locs hw => ?_)
    obtain ⟨r5, e6, h⟩ := bnd_some h
    refine wcallV1 (As := []) (rest := []) C hw (c_X2_worstStep hW (rfl : _ = some (0, 2)) e6) vlX10_219 ⟨Nat.le_of_ble_eq_true rfl, Nat.le_of_ble_eq_true rfl⟩ (rfl : _ = some (0, 2)) rfl rfl rfl hl.1 (Nat.le_of_ble_eq_true rfl) dX10_worst_17 ⟨Nat.zero_le _, Nat.zero_le _⟩ (fun H locs hw => ?_)
    refine lv_goto (tgt := 25) hx hb dX10_worst_20 (by decide) ?_
    exact wretI_W C hw h dX10_worst_25
set_option maxRecDepth 100000 in
set_option maxHeartbeats 4000000 in
theorem c_X10_sore {l : Launch} {P : Wp} {E : State → Heap → Prop} (hW : Wok shC P E) {M : Mem} {r : Int32} {M' : Mem} (h : f_X10_sore M = some (r, M')) : CT l shC P E yX10_sore bX10_sore 1 ((some .int)) 5 138 [.ref (P.2.2.1 0)] (some (.int r)) M M' := by
  refine ct_of hW (by decide) (Nat.le_of_ble_eq_true rfl) (fun p e s m args below meth c C ls hl hw => ?_)
  have hx := C.1
  have hb := C.2.1
  replace hl : lv_has ls 1 [(0, .ref (P.2.2.1 0))] := hl
  refine lv_aload_n hx hb dX10_sore_0 rfl (lv_at hl 0 rfl) ?_
  refine wgetR (t := 13) C hw flX10_49 (rfl : _ = some (0, 10)) rfl dX10_sore_1 ?_
  refine wgetR (t := 14) C hw flX10_106 (rfl : _ = some (0, 1)) rfl dX10_sore_4 ?_
  refine wcallV1 (As := []) (rest := []) C hw (c_X5_isTold hW (rfl : _ = some (0, 5)) rfl) vlX10_202 ⟨Nat.le_of_ble_eq_true rfl, Nat.le_of_ble_eq_true rfl⟩ (rfl : _ = some (0, 5)) rfl rfl rfl hl.1 (Nat.le_of_ble_eq_true rfl) dX10_sore_7 ⟨Nat.zero_le _, Nat.zero_le _⟩ (fun H locs hw => ?_)
  refine lv_if_eq (tgt := 23) hx hb dX10_sore_10 (by decide) (fun c1 => ?_) (fun c1 => ?_)
  · replace h := (if_pos c1).symm.trans h
    refine lv_bipush (v := (-2)) hx hb dX10_sore_23 (by decide) ?_
    exact wretI_W C hw h dX10_sore_25
  · replace h := (if_neg c1).symm.trans h
    refine lv_aload_n hx hb dX10_sore_13 rfl (lv_at hl 0 rfl) ?_
    obtain ⟨M4, e3, h⟩ := bnd_some h
    refine wcallV1 (As := []) (rest := []) C hw (c_X10_followedCourse hW  e3) vlX10_171 ⟨Nat.le_of_ble_eq_true rfl, Nat.le_of_ble_eq_true rfl⟩ (rfl : _ = some (0, 10)) rfl rfl rfl hl.1 (Nat.le_of_ble_eq_true rfl) dX10_sore_14 ⟨Nat.zero_le _, Nat.zero_le _⟩ (fun H locs hw => ?_)
    obtain ⟨r5, e6, h⟩ := bnd_some h
    refine wcallV1 (As := []) (rest := []) C hw (c_X2_sorestZone hW (rfl : _ = some (0, 2)) e6) vlX10_222 ⟨Nat.le_of_ble_eq_true rfl, Nat.le_of_ble_eq_true rfl⟩ (rfl : _ = some (0, 2)) rfl rfl rfl hl.1 (Nat.le_of_ble_eq_true rfl) dX10_sore_17 ⟨Nat.zero_le _, Nat.zero_le _⟩ (fun H locs hw => ?_)
    refine lv_goto (tgt := 25) hx hb dX10_sore_20 (by decide) ?_
    exact wretI_W C hw h dX10_sore_25
set_option maxRecDepth 100000 in
set_option maxHeartbeats 4000000 in
theorem c_X10_tense {l : Launch} {P : Wp} {E : State → Heap → Prop} (hW : Wok shC P E) {p1 : Int32} {M : Mem} {r : Int32} {M' : Mem} (h : f_X10_tense p1 M = some (r, M')) : CT l shC P E yX10_tense bX10_tense 2 ((some .int)) 5 138 [.ref (P.2.2.1 0), .int p1] (some (.int r)) M M' := by
  refine ct_of hW (by decide) (Nat.le_of_ble_eq_true rfl) (fun p e s m args below meth c C ls hl hw => ?_)
  have hx := C.1
  have hb := C.2.1
  replace hl : lv_has ls 2 [(0, .ref (P.2.2.1 0)), (1, .int p1)] := hl
  refine lv_aload_n hx hb dX10_tense_0 rfl (lv_at hl 0 rfl) ?_
  refine wgetR (t := 13) C hw flX10_49 (rfl : _ = some (0, 10)) rfl dX10_tense_1 ?_
  refine wgetR (t := 14) C hw flX10_106 (rfl : _ = some (0, 1)) rfl dX10_tense_4 ?_
  refine lv_iload_n hx hb dX10_tense_7 rfl (lv_at hl 1 rfl) ?_
  refine wcallV1 (As := [.int p1]) (rest := []) C hw (c_X5_hasPiece hW (rfl : _ = some (0, 5)) rfl) vlX10_132 ⟨Nat.le_of_ble_eq_true rfl, Nat.le_of_ble_eq_true rfl⟩ (rfl : _ = some (0, 5)) rfl rfl rfl hl.1 (Nat.le_of_ble_eq_true rfl) dX10_tense_8 ⟨Nat.zero_le _, Nat.zero_le _⟩ (fun H locs hw => ?_)
  refine lv_if_eq (tgt := 25) hx hb dX10_tense_11 (by decide) (fun c1 => ?_) (fun c1 => ?_)
  · replace h := (if_pos c1).symm.trans h
    refine lv_bipush (v := (-2)) hx hb dX10_tense_25 (by decide) ?_
    exact wretI_W C hw h dX10_tense_27
  · replace h := (if_neg c1).symm.trans h
    refine lv_aload_n hx hb dX10_tense_14 rfl (lv_at hl 0 rfl) ?_
    obtain ⟨M4, e3, h⟩ := bnd_some h
    refine wcallV1 (As := []) (rest := []) C hw (c_X10_followedCourse hW  e3) vlX10_171 ⟨Nat.le_of_ble_eq_true rfl, Nat.le_of_ble_eq_true rfl⟩ (rfl : _ = some (0, 10)) rfl rfl rfl hl.1 (Nat.le_of_ble_eq_true rfl) dX10_tense_15 ⟨Nat.zero_le _, Nat.zero_le _⟩ (fun H locs hw => ?_)
    refine lv_iload_n hx hb dX10_tense_18 rfl (lv_at hl 1 rfl) ?_
    obtain ⟨r5, e6, h⟩ := bnd_some h
    refine wcallV1 (As := [.int p1]) (rest := []) C hw (c_X2_tenseSteps hW (rfl : _ = some (0, 2)) e6) vlX10_225 ⟨Nat.le_of_ble_eq_true rfl, Nat.le_of_ble_eq_true rfl⟩ (rfl : _ = some (0, 2)) rfl rfl rfl hl.1 (Nat.le_of_ble_eq_true rfl) dX10_tense_19 ⟨Nat.zero_le _, Nat.zero_le _⟩ (fun H locs hw => ?_)
    refine lv_goto (tgt := 27) hx hb dX10_tense_22 (by decide) ?_
    exact wretI_W C hw h dX10_tense_27
set_option maxRecDepth 100000 in
set_option maxHeartbeats 4000000 in
theorem c_X10_warms {l : Launch} {P : Wp} {E : State → Heap → Prop} (hW : Wok shC P E) {p1 : Int32} {M : Mem} {r : Int32} {M' : Mem} (h : f_X10_warms p1 M = some (r, M')) : CT l shC P E yX10_warms bX10_warms 2 ((some .int)) 5 138 [.ref (P.2.2.1 0), .int p1] (some (.int r)) M M' := by
  refine ct_of hW (by decide) (Nat.le_of_ble_eq_true rfl) (fun p e s m args below meth c C ls hl hw => ?_)
  have hx := C.1
  have hb := C.2.1
  replace hl : lv_has ls 2 [(0, .ref (P.2.2.1 0)), (1, .int p1)] := hl
  refine lv_aload_n hx hb dX10_warms_0 rfl (lv_at hl 0 rfl) ?_
  refine wgetR (t := 13) C hw flX10_49 (rfl : _ = some (0, 10)) rfl dX10_warms_1 ?_
  refine wgetR (t := 14) C hw flX10_106 (rfl : _ = some (0, 1)) rfl dX10_warms_4 ?_
  refine lv_iload_n hx hb dX10_warms_7 rfl (lv_at hl 1 rfl) ?_
  refine wcallV1 (As := [.int p1]) (rest := []) C hw (c_X5_hasPiece hW (rfl : _ = some (0, 5)) rfl) vlX10_132 ⟨Nat.le_of_ble_eq_true rfl, Nat.le_of_ble_eq_true rfl⟩ (rfl : _ = some (0, 5)) rfl rfl rfl hl.1 (Nat.le_of_ble_eq_true rfl) dX10_warms_8 ⟨Nat.zero_le _, Nat.zero_le _⟩ (fun H locs hw => ?_)
  refine lv_if_eq (tgt := 25) hx hb dX10_warms_11 (by decide) (fun c1 => ?_) (fun c1 => ?_)
  · replace h := (if_pos c1).symm.trans h
    refine lv_bipush (v := (-2)) hx hb dX10_warms_25 (by decide) ?_
    exact wretI_W C hw h dX10_warms_27
  · replace h := (if_neg c1).symm.trans h
    refine lv_aload_n hx hb dX10_warms_14 rfl (lv_at hl 0 rfl) ?_
    obtain ⟨M4, e3, h⟩ := bnd_some h
    refine wcallV1 (As := []) (rest := []) C hw (c_X10_followedCourse hW  e3) vlX10_171 ⟨Nat.le_of_ble_eq_true rfl, Nat.le_of_ble_eq_true rfl⟩ (rfl : _ = some (0, 10)) rfl rfl rfl hl.1 (Nat.le_of_ble_eq_true rfl) dX10_warms_15 ⟨Nat.zero_le _, Nat.zero_le _⟩ (fun H locs hw => ?_)
    refine lv_iload_n hx hb dX10_warms_18 rfl (lv_at hl 1 rfl) ?_
    obtain ⟨r5, e6, h⟩ := bnd_some h
    refine wcallV1 (As := [.int p1]) (rest := []) C hw (c_X2_warmingSteps hW (rfl : _ = some (0, 2)) e6) vlX10_228 ⟨Nat.le_of_ble_eq_true rfl, Nat.le_of_ble_eq_true rfl⟩ (rfl : _ = some (0, 2)) rfl rfl rfl hl.1 (Nat.le_of_ble_eq_true rfl) dX10_warms_19 ⟨Nat.zero_le _, Nat.zero_le _⟩ (fun H locs hw => ?_)
    refine lv_goto (tgt := 27) hx hb dX10_warms_22 (by decide) ?_
    exact wretI_W C hw h dX10_warms_27
set_option maxRecDepth 100000 in
set_option maxHeartbeats 4000000 in
theorem c_X10_cool {l : Launch} {P : Wp} {E : State → Heap → Prop} (hW : Wok shC P E) {p1 : Int32} {p2 : Int32} {M : Mem} {r : Int32} {M' : Mem} (h : f_X10_cool p1 p2 M = some (r, M')) : CT l shC P E yX10_cool bX10_cool 3 ((some .int)) 5 138 [.ref (P.2.2.1 0), .int p1, .int p2] (some (.int r)) M M' := by
  refine ct_of hW (by decide) (Nat.le_of_ble_eq_true rfl) (fun p e s m args below meth c C ls hl hw => ?_)
  have hx := C.1
  have hb := C.2.1
  replace hl : lv_has ls 3 [(0, .ref (P.2.2.1 0)), (1, .int p1), (2, .int p2)] := hl
  refine lv_aload_n hx hb dX10_cool_0 rfl (lv_at hl 0 rfl) ?_
  refine wgetR (t := 13) C hw flX10_49 (rfl : _ = some (0, 10)) rfl dX10_cool_1 ?_
  refine wgetR (t := 14) C hw flX10_106 (rfl : _ = some (0, 1)) rfl dX10_cool_4 ?_
  refine lv_iload_n hx hb dX10_cool_7 rfl (lv_at hl 1 rfl) ?_
  refine wcallV1 (As := [.int p1]) (rest := []) C hw (c_X5_hasPiece hW (rfl : _ = some (0, 5)) rfl) vlX10_132 ⟨Nat.le_of_ble_eq_true rfl, Nat.le_of_ble_eq_true rfl⟩ (rfl : _ = some (0, 5)) rfl rfl rfl hl.1 (Nat.le_of_ble_eq_true rfl) dX10_cool_8 ⟨Nat.zero_le _, Nat.zero_le _⟩ (fun H locs hw => ?_)
  refine lv_if_eq (tgt := 25) hx hb dX10_cool_11 (by decide) (fun c1 => ?_) (fun c1 => ?_)
  · replace h := (if_pos c1).symm.trans h
    refine lv_bipush (v := (-2)) hx hb dX10_cool_25 (by decide) ?_
    exact wretI_W C hw h dX10_cool_27
  · replace h := (if_neg c1).symm.trans h
    refine lv_iload_n hx hb dX10_cool_14 rfl (lv_at hl 2 rfl) ?_
    refine lv_if_lt (tgt := 25) hx hb dX10_cool_15 (by decide) (fun c2 => ?_) (fun c2 => ?_)
    · replace h := (if_pos c2).symm.trans h
      refine lv_bipush (v := (-2)) hx hb dX10_cool_25 (by decide) ?_
      exact wretI_W C hw h dX10_cool_27
    · replace h := (if_neg c2).symm.trans h
      refine lv_iload_n hx hb dX10_cool_18 rfl (lv_at hl 2 rfl) ?_
      refine lv_sipush (v := 600) hx hb dX10_cool_19 (by decide) ?_
      refine lv_icmp_le (tgt := 28) hx hb dX10_cool_22 (by decide) (fun c3 => ?_) (fun c3 => ?_)
      · replace h := (if_pos c3).symm.trans h
        refine lv_aload_n hx hb dX10_cool_28 rfl (lv_at hl 0 rfl) ?_
        obtain ⟨M6, e5, h⟩ := bnd_some h
        refine wcallV1 (As := []) (rest := []) C hw (c_X10_followedCourse hW  e5) vlX10_171 ⟨Nat.le_of_ble_eq_true rfl, Nat.le_of_ble_eq_true rfl⟩ (rfl : _ = some (0, 10)) rfl rfl rfl hl.1 (Nat.le_of_ble_eq_true rfl) dX10_cool_29 ⟨Nat.zero_le _, Nat.zero_le _⟩ (fun H locs hw => ?_)
        refine lv_iload_n hx hb dX10_cool_32 rfl (lv_at hl 1 rfl) ?_
        refine lv_iload_n hx hb dX10_cool_33 rfl (lv_at hl 2 rfl) ?_
        obtain ⟨r7, e8, h⟩ := bnd_some h
        refine wcallV1 (As := [.int p1, .int p2]) (rest := []) C hw (c_X2_firstStepAtMost hW (rfl : _ = some (0, 2)) e8) vlX10_231 ⟨Nat.le_of_ble_eq_true rfl, Nat.le_of_ble_eq_true rfl⟩ (rfl : _ = some (0, 2)) rfl rfl rfl hl.1 (Nat.le_of_ble_eq_true rfl) dX10_cool_34 ⟨Nat.zero_le _, Nat.zero_le _⟩ (fun H locs hw => ?_)
        exact wretI_W C hw h dX10_cool_37
      · replace h := (if_neg c3).symm.trans h
        refine lv_bipush (v := (-2)) hx hb dX10_cool_25 (by decide) ?_
        exact wretI_W C hw h dX10_cool_27
set_option maxRecDepth 100000 in
set_option maxHeartbeats 4000000 in
theorem c_X10_still {l : Launch} {P : Wp} {E : State → Heap → Prop} (hW : Wok shC P E) {p1 : Int32} {M : Mem} {r : Int32} {M' : Mem} (h : f_X10_still p1 M = some (r, M')) : CT l shC P E yX10_still bX10_still 2 ((some .int)) 5 138 [.ref (P.2.2.1 0), .int p1] (some (.int r)) M M' := by
  refine ct_of hW (by decide) (Nat.le_of_ble_eq_true rfl) (fun p e s m args below meth c C ls hl hw => ?_)
  have hx := C.1
  have hb := C.2.1
  replace hl : lv_has ls 2 [(0, .ref (P.2.2.1 0)), (1, .int p1)] := hl
  refine lv_aload_n hx hb dX10_still_0 rfl (lv_at hl 0 rfl) ?_
  refine wgetR (t := 13) C hw flX10_49 (rfl : _ = some (0, 10)) rfl dX10_still_1 ?_
  refine wgetR (t := 14) C hw flX10_106 (rfl : _ = some (0, 1)) rfl dX10_still_4 ?_
  refine lv_iload_n hx hb dX10_still_7 rfl (lv_at hl 1 rfl) ?_
  refine wcallV1 (As := [.int p1]) (rest := []) C hw (c_X5_hasPiece hW (rfl : _ = some (0, 5)) rfl) vlX10_132 ⟨Nat.le_of_ble_eq_true rfl, Nat.le_of_ble_eq_true rfl⟩ (rfl : _ = some (0, 5)) rfl rfl rfl hl.1 (Nat.le_of_ble_eq_true rfl) dX10_still_8 ⟨Nat.zero_le _, Nat.zero_le _⟩ (fun H locs hw => ?_)
  refine lv_if_eq (tgt := 25) hx hb dX10_still_11 (by decide) (fun c1 => ?_) (fun c1 => ?_)
  · replace h := (if_pos c1).symm.trans h
    refine lv_bipush (v := (-2)) hx hb dX10_still_25 (by decide) ?_
    exact wretI_W C hw h dX10_still_27
  · replace h := (if_neg c1).symm.trans h
    refine lv_aload_n hx hb dX10_still_14 rfl (lv_at hl 0 rfl) ?_
    obtain ⟨M4, e3, h⟩ := bnd_some h
    refine wcallV1 (As := []) (rest := []) C hw (c_X10_followedCourse hW  e3) vlX10_171 ⟨Nat.le_of_ble_eq_true rfl, Nat.le_of_ble_eq_true rfl⟩ (rfl : _ = some (0, 10)) rfl rfl rfl hl.1 (Nat.le_of_ble_eq_true rfl) dX10_still_15 ⟨Nat.zero_le _, Nat.zero_le _⟩ (fun H locs hw => ?_)
    refine lv_iload_n hx hb dX10_still_18 rfl (lv_at hl 1 rfl) ?_
    obtain ⟨r5, e6, h⟩ := bnd_some h
    refine wcallV1 (As := [.int p1]) (rest := []) C hw (c_X2_stillFrom hW (rfl : _ = some (0, 2)) e6) vlX10_234 ⟨Nat.le_of_ble_eq_true rfl, Nat.le_of_ble_eq_true rfl⟩ (rfl : _ = some (0, 2)) rfl rfl rfl hl.1 (Nat.le_of_ble_eq_true rfl) dX10_still_19 ⟨Nat.zero_le _, Nat.zero_le _⟩ (fun H locs hw => ?_)
    refine lv_goto (tgt := 27) hx hb dX10_still_22 (by decide) ?_
    exact wretI_W C hw h dX10_still_27
set_option maxRecDepth 100000 in
set_option maxHeartbeats 4000000 in
theorem c_X10_pairs {l : Launch} {P : Wp} {E : State → Heap → Prop} (hW : Wok shC P E) {p1 : Int32} {M : Mem} {r : Int32} (h : f_X10_pairs p1 M = some r) : CT l shC P E yX10_pairs bX10_pairs 5 ((some .int)) 2 47 [.ref (P.2.2.1 0), .int p1] (some (.int r)) M M := by
  refine ct_of hW (by decide) (Nat.le_of_ble_eq_true rfl) (fun p e s m args below meth c C ls hl hw => ?_)
  have hx := C.1
  have hb := C.2.1
  replace hl : lv_has ls 5 [(0, .ref (P.2.2.1 0)), (1, .int p1)] := hl
  have cut_21 : ∀ (n_21 : Nat) (v2_21 : Int32) (v3_21 : Int32) (ls : Array Slot) (H : Heap) (locs : List Loc), lv_has ls 5 [(0, .ref (P.2.2.1 0)), (1, .int p1), (2, .int v2_21), (3, .int v3_21)] → Hw shC P M s H locs → lq2 (L_X10_pairs_21 p1 M) n_21 v2_21 v3_21 = some r → W p l e { frames := 2, cells := 0, slots := 0, locals := 47 } s m args below meth c H locs 0 0 (MQ below (CQ shC P E (some (.int r)) M) args s 0 0 (wA shC P)) (F0 m 21 ls []) := by
    intro n_21
    induction n_21 with
    | zero => intro v2_21 v3_21 ls H locs hl hw h; cases h
    | succ n_21 ih_21 =>
      intro v2_21 v3_21 ls H locs hl hw h
      replace h := lq2_succ h
      refine lv_iload_n hx hb dX10_pairs_21 rfl (lv_at hl 3 rfl) ?_
      refine lv_aload_n hx hb dX10_pairs_22 rfl (lv_at hl 0 rfl) ?_
      refine wgetR (t := 13) C hw flX10_49 (rfl : _ = some (0, 10)) rfl dX10_pairs_23 ?_
      refine wgetR (t := 14) C hw flX10_106 (rfl : _ = some (0, 1)) rfl dX10_pairs_26 ?_
      refine wgetI C hw flX10_237 (rfl : _ = some (0, 5)) dX10_pairs_29 ?_
      refine lv_icmp_ge (tgt := 70) hx hb dX10_pairs_32 (by decide) (fun c2 => ?_) (fun c2 => ?_)
      · replace h := (if_pos c2).symm.trans h
        refine lv_iload_n hx hb dX10_pairs_70 rfl (lv_at hl 2 rfl) ?_
        exact wretI_R C hw h dX10_pairs_71
      · replace h := (if_neg c2).symm.trans h
        refine lv_aload_n hx hb dX10_pairs_35 rfl (lv_at hl 0 rfl) ?_
        refine wgetR (t := 13) C hw flX10_49 (rfl : _ = some (0, 10)) rfl dX10_pairs_36 ?_
        refine wgetR (t := 14) C hw flX10_106 (rfl : _ = some (0, 1)) rfl dX10_pairs_39 ?_
        refine lv_iload_n hx hb dX10_pairs_42 rfl (lv_at hl 3 rfl) ?_
        refine lv_iload_n hx hb dX10_pairs_43 rfl (lv_at hl 1 rfl) ?_
        obtain ⟨r3, e4, h⟩ := bnd_some h
        refine wcallV1 (As := [.int v3_21, .int p1]) (rest := []) C hw (c_X5_piecesAt hW (rfl : _ = some (0, 5)) e4) vlX10_161 ⟨Nat.le_of_ble_eq_true rfl, Nat.le_of_ble_eq_true rfl⟩ (rfl : _ = some (0, 5)) rfl rfl rfl hl.1 (Nat.le_of_ble_eq_true rfl) dX10_pairs_44 ⟨Nat.zero_le _, Nat.zero_le _⟩ (fun H locs hw => ?_)
        refine wcallS1 (As := [.int r3]) (rest := []) C hw (c_J6_bitCount_0f7a4 hW  rfl) slX10_240 ⟨Nat.le_of_ble_eq_true rfl, Nat.le_of_ble_eq_true rfl⟩ rfl rfl hl.1 (Nat.le_of_ble_eq_true rfl) dX10_pairs_47 ⟨Nat.zero_le _, Nat.zero_le _⟩ (fun H locs hw => ?_)
        refine lv_topi (fun x5 ex5 => ?_)
        replace h := letv_at ex5 h
        refine lv_istore (lv' := [(4, .int x5), (0, .ref (P.2.2.1 0)), (1, .int p1), (2, .int v2_21), (3, .int v3_21)]) hx hb dX10_pairs_50 hl (by decide) rfl (fun ls hl => ?_)
        refine lv_iload_n hx hb dX10_pairs_52 rfl (lv_at hl 3 rfl) ?_
        refine lv_iload hx hb dX10_pairs_53 (lv_at hl 0 rfl) ?_
        refine lv_iload hx hb dX10_pairs_55 (lv_at hl 0 rfl) ?_
        refine lv_iconst (v := 1) hx hb dX10_pairs_57 (by decide) ?_
        refine lv_isub hx hb dX10_pairs_58 ?_
        refine lv_imul hx hb dX10_pairs_59 ?_
        refine lv_iconst (v := 2) hx hb dX10_pairs_60 (by decide) ?_
        refine lv_idiv hx hb dX10_pairs_61 (by decide) ?_
        refine lv_iadd hx hb dX10_pairs_62 ?_
        refine lv_topi (fun x6 ex6 => ?_)
        replace h := letv_at ex6 h
        refine lv_istore_n (lv' := [(2, .int x6), (4, .int x5), (0, .ref (P.2.2.1 0)), (1, .int p1), (3, .int v3_21)]) hx hb dX10_pairs_63 rfl hl (by decide) rfl (fun ls hl => ?_)
        refine lv_iinc (v := (v3_21 + 1)) (lv' := [(3, .int (v3_21 + 1)), (2, .int x6), (4, .int x5), (0, .ref (P.2.2.1 0)), (1, .int p1)]) (k := 4) hx hb dX10_pairs_64 hl rfl (congrArg (fun z => v3_21 + z) (by decide)) (by decide) rfl (fun ls hl => ?_)
        refine lv_goto (tgt := 21) hx hb dX10_pairs_67 (by decide) ?_
        exact ih_21 x6 (v3_21 + 1) ls _ _ (lv_sub hl [3, 4, 1, 0] rfl) hw h
  refine lv_aload_n hx hb dX10_pairs_0 rfl (lv_at hl 0 rfl) ?_
  refine wgetR (t := 13) C hw flX10_49 (rfl : _ = some (0, 10)) rfl dX10_pairs_1 ?_
  refine wgetR (t := 14) C hw flX10_106 (rfl : _ = some (0, 1)) rfl dX10_pairs_4 ?_
  refine lv_iload_n hx hb dX10_pairs_7 rfl (lv_at hl 1 rfl) ?_
  refine wcallV1 (As := [.int p1]) (rest := []) C hw (c_X5_hasStep hW (rfl : _ = some (0, 5)) rfl) vlX10_147 ⟨Nat.le_of_ble_eq_true rfl, Nat.le_of_ble_eq_true rfl⟩ (rfl : _ = some (0, 5)) rfl rfl rfl hl.1 (Nat.le_of_ble_eq_true rfl) dX10_pairs_8 ⟨Nat.zero_le _, Nat.zero_le _⟩ (fun H locs hw => ?_)
  refine lv_if_ne (tgt := 17) hx hb dX10_pairs_11 (by decide) (fun c1 => ?_) (fun c1 => ?_)
  · replace h := (if_neg c1).symm.trans h
    refine lv_iconst (v := 0) hx hb dX10_pairs_17 (by decide) ?_
    refine lv_istore_n (lv' := [(2, .int 0), (0, .ref (P.2.2.1 0)), (1, .int p1)]) hx hb dX10_pairs_18 rfl hl (by decide) rfl (fun ls hl => ?_)
    refine lv_iconst (v := 0) hx hb dX10_pairs_19 (by decide) ?_
    refine lv_istore_n (lv' := [(3, .int 0), (2, .int 0), (0, .ref (P.2.2.1 0)), (1, .int p1)]) hx hb dX10_pairs_20 rfl hl (by decide) rfl (fun ls hl => ?_)
    exact cut_21 FU 0 0 ls _ _ (lv_sub hl [2, 3, 1, 0] rfl) hw h
  · replace h := (if_pos c1).symm.trans h
    refine lv_bipush (v := (-2)) hx hb dX10_pairs_14 (by decide) ?_
    exact wretI_R C hw h dX10_pairs_16
set_option maxRecDepth 100000 in
set_option maxHeartbeats 4000000 in
theorem c_X10_crowd {l : Launch} {P : Wp} {E : State → Heap → Prop} (hW : Wok shC P E) {M : Mem} {r : Int32} (h : f_X10_crowd M = some r) : CT l shC P E yX10_crowd bX10_crowd 4 ((some .int)) 2 47 [.ref (P.2.2.1 0)] (some (.int r)) M M := by
  refine ct_of hW (by decide) (Nat.le_of_ble_eq_true rfl) (fun p e s m args below meth c C ls hl hw => ?_)
  have hx := C.1
  have hb := C.2.1
  replace hl : lv_has ls 4 [(0, .ref (P.2.2.1 0))] := hl
  have cut_20 : ∀ (n_20 : Nat) (v1_20 : Int32) (v2_20 : Int32) (ls : Array Slot) (H : Heap) (locs : List Loc), lv_has ls 4 [(0, .ref (P.2.2.1 0)), (1, .int v1_20), (2, .int v2_20)] → Hw shC P M s H locs → lq2 (L_X10_crowd_20 M) n_20 v1_20 v2_20 = some r → W p l e { frames := 2, cells := 0, slots := 0, locals := 47 } s m args below meth c H locs 0 0 (MQ below (CQ shC P E (some (.int r)) M) args s 0 0 (wA shC P)) (F0 m 20 ls []) := by
    intro n_20
    induction n_20 with
    | zero => intro v1_20 v2_20 ls H locs hl hw h; cases h
    | succ n_20 ih_20 =>
      intro v1_20 v2_20 ls H locs hl hw h
      replace h := lq2_succ h
      have cut_36 : ∀ (v2_36 : Int32) (n_36 : Nat) (v1_36 : Int32) (v3_36 : Int32) (ls : Array Slot) (H : Heap) (locs : List Loc), lv_has ls 4 [(0, .ref (P.2.2.1 0)), (1, .int v1_36), (2, .int v2_36), (3, .int v3_36)] → Hw shC P M s H locs → lq2 (L_X10_crowd_36 M (lq2 (L_X10_crowd_20 M) n_20) v2_36) n_36 v1_36 v3_36 = some r → W p l e { frames := 2, cells := 0, slots := 0, locals := 47 } s m args below meth c H locs 0 0 (MQ below (CQ shC P E (some (.int r)) M) args s 0 0 (wA shC P)) (F0 m 36 ls []) := by
        intro v2_36 n_36
        induction n_36 with
        | zero => intro v1_36 v3_36 ls H locs hl hw h; cases h
        | succ n_36 ih_36 =>
          intro v1_36 v3_36 ls H locs hl hw h
          replace h := lq2_succ h
          refine lv_iload_n hx hb dX10_crowd_36 rfl (lv_at hl 3 rfl) ?_
          refine lv_aload_n hx hb dX10_crowd_37 rfl (lv_at hl 0 rfl) ?_
          refine wgetR (t := 13) C hw flX10_49 (rfl : _ = some (0, 10)) rfl dX10_crowd_38 ?_
          refine wgetR (t := 14) C hw flX10_106 (rfl : _ = some (0, 1)) rfl dX10_crowd_41 ?_
          refine wgetI C hw flX10_210 (rfl : _ = some (0, 5)) dX10_crowd_44 ?_
          refine lv_icmp_gt (tgt := 76) hx hb dX10_crowd_47 (by decide) (fun c3 => ?_) (fun c3 => ?_)
          · replace h := (if_pos c3).symm.trans h
            refine lv_iinc (v := (v2_36 + 1)) (lv' := [(2, .int (v2_36 + 1)), (0, .ref (P.2.2.1 0)), (1, .int v1_36), (3, .int v3_36)]) (k := 2) hx hb dX10_crowd_76 hl rfl (congrArg (fun z => v2_36 + z) (by decide)) (by decide) rfl (fun ls hl => ?_)
            refine lv_goto (tgt := 20) hx hb dX10_crowd_79 (by decide) ?_
            exact ih_20 v1_36 (v2_36 + 1) ls _ _ (lv_sub hl [1, 2, 0] rfl) hw h
          · replace h := (if_neg c3).symm.trans h
            refine lv_iload_n hx hb dX10_crowd_50 rfl (lv_at hl 1 rfl) ?_
            refine lv_aload_n hx hb dX10_crowd_51 rfl (lv_at hl 0 rfl) ?_
            refine wgetR (t := 13) C hw flX10_49 (rfl : _ = some (0, 10)) rfl dX10_crowd_52 ?_
            refine wgetR (t := 14) C hw flX10_106 (rfl : _ = some (0, 1)) rfl dX10_crowd_55 ?_
            refine lv_iload_n hx hb dX10_crowd_58 rfl (lv_at hl 2 rfl) ?_
            refine lv_iload_n hx hb dX10_crowd_59 rfl (lv_at hl 3 rfl) ?_
            obtain ⟨r4, e5, h⟩ := bnd_some h
            refine wcallV1 (As := [.int v2_36, .int v3_36]) (rest := [.int v1_36]) C hw (c_X5_piecesAt hW (rfl : _ = some (0, 5)) e5) vlX10_161 ⟨Nat.le_of_ble_eq_true rfl, Nat.le_of_ble_eq_true rfl⟩ (rfl : _ = some (0, 5)) rfl rfl rfl hl.1 (Nat.le_of_ble_eq_true rfl) dX10_crowd_60 ⟨Nat.zero_le _, Nat.zero_le _⟩ (fun H locs hw => ?_)
            refine wcallS1 (As := [.int r4]) (rest := [.int v1_36]) C hw (c_J6_bitCount_0f7a4 hW  rfl) slX10_240 ⟨Nat.le_of_ble_eq_true rfl, Nat.le_of_ble_eq_true rfl⟩ rfl rfl hl.1 (Nat.le_of_ble_eq_true rfl) dX10_crowd_63 ⟨Nat.zero_le _, Nat.zero_le _⟩ (fun H locs hw => ?_)
            refine wmax C mlX10_245 hl.1 (Nat.le_of_ble_eq_true rfl) (Nat.le_of_ble_eq_true rfl) (Nat.zero_le _) (Nat.zero_le _) dX10_crowd_66 ?_
            refine lv_topi (fun x6 ex6 => ?_)
            replace h := letv_at ex6 h
            refine lv_istore_n (lv' := [(1, .int x6), (0, .ref (P.2.2.1 0)), (2, .int v2_36), (3, .int v3_36)]) hx hb dX10_crowd_69 rfl hl (by decide) rfl (fun ls hl => ?_)
            refine lv_iinc (v := (v3_36 + 1)) (lv' := [(3, .int (v3_36 + 1)), (1, .int x6), (0, .ref (P.2.2.1 0)), (2, .int v2_36)]) (k := 3) hx hb dX10_crowd_70 hl rfl (congrArg (fun z => v3_36 + z) (by decide)) (by decide) rfl (fun ls hl => ?_)
            refine lv_goto (tgt := 36) hx hb dX10_crowd_73 (by decide) ?_
            exact ih_36 x6 (v3_36 + 1) ls _ _ (lv_sub hl [2, 1, 3, 0] rfl) hw h
      refine lv_iload_n hx hb dX10_crowd_20 rfl (lv_at hl 2 rfl) ?_
      refine lv_aload_n hx hb dX10_crowd_21 rfl (lv_at hl 0 rfl) ?_
      refine wgetR (t := 13) C hw flX10_49 (rfl : _ = some (0, 10)) rfl dX10_crowd_22 ?_
      refine wgetR (t := 14) C hw flX10_106 (rfl : _ = some (0, 1)) rfl dX10_crowd_25 ?_
      refine wgetI C hw flX10_237 (rfl : _ = some (0, 5)) dX10_crowd_28 ?_
      refine lv_icmp_ge (tgt := 82) hx hb dX10_crowd_31 (by decide) (fun c2 => ?_) (fun c2 => ?_)
      · replace h := (if_pos c2).symm.trans h
        refine lv_iload_n hx hb dX10_crowd_82 rfl (lv_at hl 1 rfl) ?_
        exact wretI_R C hw h dX10_crowd_83
      · replace h := (if_neg c2).symm.trans h
        refine lv_iconst (v := 0) hx hb dX10_crowd_34 (by decide) ?_
        refine lv_istore_n (lv' := [(3, .int 0), (0, .ref (P.2.2.1 0)), (1, .int v1_20), (2, .int v2_20)]) hx hb dX10_crowd_35 rfl hl (by decide) rfl (fun ls hl => ?_)
        exact cut_36 v2_20 FU v1_20 0 ls _ _ (lv_sub hl [1, 2, 3, 0] rfl) hw h
  refine lv_aload_n hx hb dX10_crowd_0 rfl (lv_at hl 0 rfl) ?_
  refine wgetR (t := 13) C hw flX10_49 (rfl : _ = some (0, 10)) rfl dX10_crowd_1 ?_
  refine wgetR (t := 14) C hw flX10_106 (rfl : _ = some (0, 1)) rfl dX10_crowd_4 ?_
  refine wcallV1 (As := []) (rest := []) C hw (c_X5_isTold hW (rfl : _ = some (0, 5)) rfl) vlX10_202 ⟨Nat.le_of_ble_eq_true rfl, Nat.le_of_ble_eq_true rfl⟩ (rfl : _ = some (0, 5)) rfl rfl rfl hl.1 (Nat.le_of_ble_eq_true rfl) dX10_crowd_7 ⟨Nat.zero_le _, Nat.zero_le _⟩ (fun H locs hw => ?_)
  refine lv_if_ne (tgt := 16) hx hb dX10_crowd_10 (by decide) (fun c1 => ?_) (fun c1 => ?_)
  · replace h := (if_neg c1).symm.trans h
    refine lv_iconst (v := 0) hx hb dX10_crowd_16 (by decide) ?_
    refine lv_istore_n (lv' := [(1, .int 0), (0, .ref (P.2.2.1 0))]) hx hb dX10_crowd_17 rfl hl (by decide) rfl (fun ls hl => ?_)
    refine lv_iconst (v := 0) hx hb dX10_crowd_18 (by decide) ?_
    refine lv_istore_n (lv' := [(2, .int 0), (1, .int 0), (0, .ref (P.2.2.1 0))]) hx hb dX10_crowd_19 rfl hl (by decide) rfl (fun ls hl => ?_)
    exact cut_20 FU 0 0 ls _ _ (lv_sub hl [2, 1, 0] rfl) hw h
  · replace h := (if_pos c1).symm.trans h
    refine lv_bipush (v := (-2)) hx hb dX10_crowd_13 (by decide) ?_
    exact wretI_R C hw h dX10_crowd_15
set_option maxRecDepth 100000 in
set_option maxHeartbeats 4000000 in
theorem c_X10_airNow {l : Launch} {P : Wp} {E : State → Heap → Prop} (hW : Wok shC P E) {p1 : Int32} {p2 : Int32} {M : Mem} {r : Int32} (h : f_X10_airNow p1 p2 M = some r) : CT l shC P E yX10_airNow bX10_airNow 3 ((some .int)) 2 65 [.ref (P.2.2.1 0), .int p1, .int p2] (some (.int r)) M M := by
  refine ct_of hW (by decide) (Nat.le_of_ble_eq_true rfl) (fun p e s m args below meth c C ls hl hw => ?_)
  have hx := C.1
  have hb := C.2.1
  replace hl : lv_has ls 3 [(0, .ref (P.2.2.1 0)), (1, .int p1), (2, .int p2)] := hl
  refine lv_aload_n hx hb dX10_airNow_0 rfl (lv_at hl 0 rfl) ?_
  refine wgetR (t := 13) C hw flX10_49 (rfl : _ = some (0, 10)) rfl dX10_airNow_1 ?_
  refine lv_iload_n hx hb dX10_airNow_4 rfl (lv_at hl 1 rfl) ?_
  refine lv_iload_n hx hb dX10_airNow_5 rfl (lv_at hl 2 rfl) ?_
  refine lv_aload_n hx hb dX10_airNow_6 rfl (lv_at hl 0 rfl) ?_
  refine wgetR (t := 13) C hw flX10_49 (rfl : _ = some (0, 10)) rfl dX10_airNow_7 ?_
  refine wgetR (t := 20) C hw flX10_112 (rfl : _ = some (0, 1)) rfl dX10_airNow_10 ?_
  refine wgetI C hw flX10_150 (rfl : _ = some (0, 0)) dX10_airNow_13 ?_
  obtain ⟨r1, e2, h⟩ := bnd_some h
  refine wcallV1 (As := [.int p1, .int p2, .int (M.1 20 1)]) (rest := []) C hw (c_X1_airAt hW (rfl : _ = some (0, 1)) e2) vlX10_153 ⟨Nat.le_of_ble_eq_true rfl, Nat.le_of_ble_eq_true rfl⟩ (rfl : _ = some (0, 1)) rfl rfl rfl hl.1 (Nat.le_of_ble_eq_true rfl) dX10_airNow_16 ⟨Nat.zero_le _, Nat.zero_le _⟩ (fun H locs hw => ?_)
  exact wretI_R C hw h dX10_airNow_19
set_option maxRecDepth 100000 in
set_option maxHeartbeats 4000000 in
theorem c_X10_oven {l : Launch} {P : Wp} {E : State → Heap → Prop} (hW : Wok shC P E) {p1 : Int32} {M : Mem} {r : Int32} (h : f_X10_oven p1 M = some r) : CT l shC P E yX10_oven bX10_oven 4 ((some .int)) 3 87 [.ref (P.2.2.1 0), .int p1] (some (.int r)) M M := by
  refine ct_of hW (by decide) (Nat.le_of_ble_eq_true rfl) (fun p e s m args below meth c C ls hl hw => ?_)
  have hx := C.1
  have hb := C.2.1
  replace hl : lv_has ls 4 [(0, .ref (P.2.2.1 0)), (1, .int p1)] := hl
  have cut_21 : ∀ (n_21 : Nat) (v2_21 : Int32) (v3_21 : Int32) (ls : Array Slot) (H : Heap) (locs : List Loc), lv_has ls 4 [(0, .ref (P.2.2.1 0)), (1, .int p1), (2, .int v2_21), (3, .int v3_21)] → Hw shC P M s H locs → lq2 (L_X10_oven_21 p1 M) n_21 v2_21 v3_21 = some r → W p l e { frames := 3, cells := 0, slots := 0, locals := 87 } s m args below meth c H locs 0 0 (MQ below (CQ shC P E (some (.int r)) M) args s 0 0 (wA shC P)) (F0 m 21 ls []) := by
    intro n_21
    induction n_21 with
    | zero => intro v2_21 v3_21 ls H locs hl hw h; cases h
    | succ n_21 ih_21 =>
      intro v2_21 v3_21 ls H locs hl hw h
      replace h := lq2_succ h
      refine lv_iload_n hx hb dX10_oven_21 rfl (lv_at hl 3 rfl) ?_
      refine lv_aload_n hx hb dX10_oven_22 rfl (lv_at hl 0 rfl) ?_
      refine wgetR (t := 13) C hw flX10_49 (rfl : _ = some (0, 10)) rfl dX10_oven_23 ?_
      refine wgetR (t := 14) C hw flX10_106 (rfl : _ = some (0, 1)) rfl dX10_oven_26 ?_
      refine wgetI C hw flX10_237 (rfl : _ = some (0, 5)) dX10_oven_29 ?_
      refine lv_icmp_ge (tgt := 63) hx hb dX10_oven_32 (by decide) (fun c2 => ?_) (fun c2 => ?_)
      · replace h := (if_pos c2).symm.trans h
        refine lv_iload_n hx hb dX10_oven_63 rfl (lv_at hl 2 rfl) ?_
        exact wretI_R C hw h dX10_oven_64
      · replace h := (if_neg c2).symm.trans h
        refine lv_iload_n hx hb dX10_oven_35 rfl (lv_at hl 2 rfl) ?_
        refine lv_iconst (v := (-1)) hx hb dX10_oven_36 (by decide) ?_
        refine lv_icmp_eq (tgt := 55) hx hb dX10_oven_37 (by decide) (fun c3 => ?_) (fun c3 => ?_)
        · replace h := (if_pos c3).symm.trans h
          refine lv_iload_n hx hb dX10_oven_55 rfl (lv_at hl 3 rfl) ?_
          refine lv_istore_n (lv' := [(2, .int v3_21), (0, .ref (P.2.2.1 0)), (1, .int p1), (3, .int v3_21)]) hx hb dX10_oven_56 rfl hl (by decide) rfl (fun ls hl => ?_)
          refine lv_iinc (v := (v3_21 + 1)) (lv' := [(3, .int (v3_21 + 1)), (2, .int v3_21), (0, .ref (P.2.2.1 0)), (1, .int p1)]) (k := 3) hx hb dX10_oven_57 hl rfl (congrArg (fun z => v3_21 + z) (by decide)) (by decide) rfl (fun ls hl => ?_)
          refine lv_goto (tgt := 21) hx hb dX10_oven_60 (by decide) ?_
          exact ih_21 v3_21 (v3_21 + 1) ls _ _ (lv_sub hl [2, 3, 1, 0] rfl) hw h
        · replace h := (if_neg c3).symm.trans h
          refine lv_aload_n hx hb dX10_oven_40 rfl (lv_at hl 0 rfl) ?_
          refine lv_iload_n hx hb dX10_oven_41 rfl (lv_at hl 3 rfl) ?_
          refine lv_iload_n hx hb dX10_oven_42 rfl (lv_at hl 1 rfl) ?_
          obtain ⟨r4, e5, h⟩ := bnd_some h
          refine wcallV1 (As := [.int v3_21, .int p1]) (rest := []) C hw (c_X10_airNow hW  e5) vlX10_250 ⟨Nat.le_of_ble_eq_true rfl, Nat.le_of_ble_eq_true rfl⟩ (rfl : _ = some (0, 10)) rfl rfl rfl hl.1 (Nat.le_of_ble_eq_true rfl) dX10_oven_43 ⟨Nat.zero_le _, Nat.zero_le _⟩ (fun H locs hw => ?_)
          refine lv_aload_n hx hb dX10_oven_46 rfl (lv_at hl 0 rfl) ?_
          refine lv_iload_n hx hb dX10_oven_47 rfl (lv_at hl 2 rfl) ?_
          refine lv_iload_n hx hb dX10_oven_48 rfl (lv_at hl 1 rfl) ?_
          obtain ⟨r6, e7, h⟩ := bnd_some h
          refine wcallV1 (As := [.int v2_21, .int p1]) (rest := [.int r4]) C hw (c_X10_airNow hW  e7) vlX10_250 ⟨Nat.le_of_ble_eq_true rfl, Nat.le_of_ble_eq_true rfl⟩ (rfl : _ = some (0, 10)) rfl rfl rfl hl.1 (Nat.le_of_ble_eq_true rfl) dX10_oven_49 ⟨Nat.zero_le _, Nat.zero_le _⟩ (fun H locs hw => ?_)
          refine lv_icmp_le (tgt := 57) hx hb dX10_oven_52 (by decide) (fun c8 => ?_) (fun c8 => ?_)
          · replace h := (if_pos c8).symm.trans h
            refine lv_iinc (v := (v3_21 + 1)) (lv' := [(3, .int (v3_21 + 1)), (0, .ref (P.2.2.1 0)), (1, .int p1), (2, .int v2_21)]) (k := 3) hx hb dX10_oven_57 hl rfl (congrArg (fun z => v3_21 + z) (by decide)) (by decide) rfl (fun ls hl => ?_)
            refine lv_goto (tgt := 21) hx hb dX10_oven_60 (by decide) ?_
            exact ih_21 v2_21 (v3_21 + 1) ls _ _ (lv_sub hl [1, 2, 3, 0] rfl) hw h
          · replace h := (if_neg c8).symm.trans h
            refine lv_iload_n hx hb dX10_oven_55 rfl (lv_at hl 3 rfl) ?_
            refine lv_istore_n (lv' := [(2, .int v3_21), (0, .ref (P.2.2.1 0)), (1, .int p1), (3, .int v3_21)]) hx hb dX10_oven_56 rfl hl (by decide) rfl (fun ls hl => ?_)
            refine lv_iinc (v := (v3_21 + 1)) (lv' := [(3, .int (v3_21 + 1)), (2, .int v3_21), (0, .ref (P.2.2.1 0)), (1, .int p1)]) (k := 3) hx hb dX10_oven_57 hl rfl (congrArg (fun z => v3_21 + z) (by decide)) (by decide) rfl (fun ls hl => ?_)
            refine lv_goto (tgt := 21) hx hb dX10_oven_60 (by decide) ?_
            exact ih_21 v3_21 (v3_21 + 1) ls _ _ (lv_sub hl [2, 3, 1, 0] rfl) hw h
  refine lv_aload_n hx hb dX10_oven_0 rfl (lv_at hl 0 rfl) ?_
  refine wgetR (t := 13) C hw flX10_49 (rfl : _ = some (0, 10)) rfl dX10_oven_1 ?_
  refine wgetR (t := 14) C hw flX10_106 (rfl : _ = some (0, 1)) rfl dX10_oven_4 ?_
  refine lv_iload_n hx hb dX10_oven_7 rfl (lv_at hl 1 rfl) ?_
  refine wcallV1 (As := [.int p1]) (rest := []) C hw (c_X5_hasStep hW (rfl : _ = some (0, 5)) rfl) vlX10_147 ⟨Nat.le_of_ble_eq_true rfl, Nat.le_of_ble_eq_true rfl⟩ (rfl : _ = some (0, 5)) rfl rfl rfl hl.1 (Nat.le_of_ble_eq_true rfl) dX10_oven_8 ⟨Nat.zero_le _, Nat.zero_le _⟩ (fun H locs hw => ?_)
  refine lv_if_ne (tgt := 17) hx hb dX10_oven_11 (by decide) (fun c1 => ?_) (fun c1 => ?_)
  · replace h := (if_neg c1).symm.trans h
    refine lv_iconst (v := (-1)) hx hb dX10_oven_17 (by decide) ?_
    refine lv_istore_n (lv' := [(2, .int (-1)), (0, .ref (P.2.2.1 0)), (1, .int p1)]) hx hb dX10_oven_18 rfl hl (by decide) rfl (fun ls hl => ?_)
    refine lv_iconst (v := 0) hx hb dX10_oven_19 (by decide) ?_
    refine lv_istore_n (lv' := [(3, .int 0), (2, .int (-1)), (0, .ref (P.2.2.1 0)), (1, .int p1)]) hx hb dX10_oven_20 rfl hl (by decide) rfl (fun ls hl => ?_)
    exact cut_21 FU (-1) 0 ls _ _ (lv_sub hl [2, 3, 1, 0] rfl) hw h
  · replace h := (if_pos c1).symm.trans h
    refine lv_bipush (v := (-2)) hx hb dX10_oven_14 (by decide) ?_
    exact wretI_R C hw h dX10_oven_16
set_option maxRecDepth 100000 in
set_option maxHeartbeats 4000000 in
theorem c_X10_airFall {l : Launch} {P : Wp} {E : State → Heap → Prop} (hW : Wok shC P E) {p1 : Int32} {p2 : Int32} {M : Mem} {r : Int32} (h : f_X10_airFall p1 p2 M = some r) : CT l shC P E yX10_airFall bX10_airFall 3 ((some .int)) 3 87 [.ref (P.2.2.1 0), .int p1, .int p2] (some (.int r)) M M := by
  refine ct_of hW (by decide) (Nat.le_of_ble_eq_true rfl) (fun p e s m args below meth c C ls hl hw => ?_)
  have hx := C.1
  have hb := C.2.1
  replace hl : lv_has ls 3 [(0, .ref (P.2.2.1 0)), (1, .int p1), (2, .int p2)] := hl
  refine lv_aload_n hx hb dX10_airFall_0 rfl (lv_at hl 0 rfl) ?_
  refine lv_iload_n hx hb dX10_airFall_1 rfl (lv_at hl 1 rfl) ?_
  refine lv_iload_n hx hb dX10_airFall_2 rfl (lv_at hl 2 rfl) ?_
  obtain ⟨r1, e2, h⟩ := bnd_some h
  refine wcallV1 (As := [.int p1, .int p2]) (rest := []) C hw (c_X10_airNow hW  e2) vlX10_250 ⟨Nat.le_of_ble_eq_true rfl, Nat.le_of_ble_eq_true rfl⟩ (rfl : _ = some (0, 10)) rfl rfl rfl hl.1 (Nat.le_of_ble_eq_true rfl) dX10_airFall_3 ⟨Nat.zero_le _, Nat.zero_le _⟩ (fun H locs hw => ?_)
  refine lv_aload_n hx hb dX10_airFall_6 rfl (lv_at hl 0 rfl) ?_
  refine lv_iload_n hx hb dX10_airFall_7 rfl (lv_at hl 1 rfl) ?_
  refine lv_iconst (v := 1) hx hb dX10_airFall_8 (by decide) ?_
  refine lv_iadd hx hb dX10_airFall_9 ?_
  refine lv_iload_n hx hb dX10_airFall_10 rfl (lv_at hl 2 rfl) ?_
  obtain ⟨r3, e4, h⟩ := bnd_some h
  refine wcallV1 (As := [.int (p1 + (1 : Int32)), .int p2]) (rest := [.int r1]) C hw (c_X10_airNow hW  e4) vlX10_250 ⟨Nat.le_of_ble_eq_true rfl, Nat.le_of_ble_eq_true rfl⟩ (rfl : _ = some (0, 10)) rfl rfl rfl hl.1 (Nat.le_of_ble_eq_true rfl) dX10_airFall_11 ⟨Nat.zero_le _, Nat.zero_le _⟩ (fun H locs hw => ?_)
  refine lv_isub hx hb dX10_airFall_14 ?_
  exact wretI_R C hw h dX10_airFall_15
set_option maxRecDepth 100000 in
set_option maxHeartbeats 4000000 in
theorem c_X10_fall {l : Launch} {P : Wp} {E : State → Heap → Prop} (hW : Wok shC P E) {p1 : Int32} {p2 : Int32} {M : Mem} {r : Int32} (h : f_X10_fall p1 p2 M = some r) : CT l shC P E yX10_fall bX10_fall 3 ((some .int)) 4 109 [.ref (P.2.2.1 0), .int p1, .int p2] (some (.int r)) M M := by
  refine ct_of hW (by decide) (Nat.le_of_ble_eq_true rfl) (fun p e s m args below meth c C ls hl hw => ?_)
  have hx := C.1
  have hb := C.2.1
  replace hl : lv_has ls 3 [(0, .ref (P.2.2.1 0)), (1, .int p1), (2, .int p2)] := hl
  refine lv_aload_n hx hb dX10_fall_0 rfl (lv_at hl 0 rfl) ?_
  refine wgetR (t := 13) C hw flX10_49 (rfl : _ = some (0, 10)) rfl dX10_fall_1 ?_
  refine wgetR (t := 14) C hw flX10_106 (rfl : _ = some (0, 1)) rfl dX10_fall_4 ?_
  refine lv_iload_n hx hb dX10_fall_7 rfl (lv_at hl 1 rfl) ?_
  refine wcallV1 (As := [.int p1]) (rest := []) C hw (c_X5_hasZone hW (rfl : _ = some (0, 5)) rfl) vlX10_125 ⟨Nat.le_of_ble_eq_true rfl, Nat.le_of_ble_eq_true rfl⟩ (rfl : _ = some (0, 5)) rfl rfl rfl hl.1 (Nat.le_of_ble_eq_true rfl) dX10_fall_8 ⟨Nat.zero_le _, Nat.zero_le _⟩ (fun H locs hw => ?_)
  refine lv_if_eq (tgt := 44) hx hb dX10_fall_11 (by decide) (fun c1 => ?_) (fun c1 => ?_)
  · replace h := (if_pos c1).symm.trans h
    refine lv_sipush (v := (-10000)) hx hb dX10_fall_44 (by decide) ?_
    exact wretI_R C hw h dX10_fall_47
  · replace h := (if_neg c1).symm.trans h
    refine lv_aload_n hx hb dX10_fall_14 rfl (lv_at hl 0 rfl) ?_
    refine wgetR (t := 13) C hw flX10_49 (rfl : _ = some (0, 10)) rfl dX10_fall_15 ?_
    refine wgetR (t := 14) C hw flX10_106 (rfl : _ = some (0, 1)) rfl dX10_fall_18 ?_
    refine lv_iload_n hx hb dX10_fall_21 rfl (lv_at hl 1 rfl) ?_
    refine lv_iconst (v := 1) hx hb dX10_fall_22 (by decide) ?_
    refine lv_iadd hx hb dX10_fall_23 ?_
    refine wcallV1 (As := [.int (p1 + (1 : Int32))]) (rest := []) C hw (c_X5_hasZone hW (rfl : _ = some (0, 5)) rfl) vlX10_125 ⟨Nat.le_of_ble_eq_true rfl, Nat.le_of_ble_eq_true rfl⟩ (rfl : _ = some (0, 5)) rfl rfl rfl hl.1 (Nat.le_of_ble_eq_true rfl) dX10_fall_24 ⟨Nat.zero_le _, Nat.zero_le _⟩ (fun H locs hw => ?_)
    refine lv_if_eq (tgt := 44) hx hb dX10_fall_27 (by decide) (fun c2 => ?_) (fun c2 => ?_)
    · replace h := (if_pos c2).symm.trans h
      refine lv_sipush (v := (-10000)) hx hb dX10_fall_44 (by decide) ?_
      exact wretI_R C hw h dX10_fall_47
    · replace h := (if_neg c2).symm.trans h
      refine lv_aload_n hx hb dX10_fall_30 rfl (lv_at hl 0 rfl) ?_
      refine wgetR (t := 13) C hw flX10_49 (rfl : _ = some (0, 10)) rfl dX10_fall_31 ?_
      refine wgetR (t := 14) C hw flX10_106 (rfl : _ = some (0, 1)) rfl dX10_fall_34 ?_
      refine lv_iload_n hx hb dX10_fall_37 rfl (lv_at hl 2 rfl) ?_
      refine wcallV1 (As := [.int p2]) (rest := []) C hw (c_X5_hasStep hW (rfl : _ = some (0, 5)) rfl) vlX10_147 ⟨Nat.le_of_ble_eq_true rfl, Nat.le_of_ble_eq_true rfl⟩ (rfl : _ = some (0, 5)) rfl rfl rfl hl.1 (Nat.le_of_ble_eq_true rfl) dX10_fall_38 ⟨Nat.zero_le _, Nat.zero_le _⟩ (fun H locs hw => ?_)
      refine lv_if_ne (tgt := 48) hx hb dX10_fall_41 (by decide) (fun c3 => ?_) (fun c3 => ?_)
      · replace h := (if_neg c3).symm.trans h
        refine lv_aload_n hx hb dX10_fall_48 rfl (lv_at hl 0 rfl) ?_
        refine lv_iload_n hx hb dX10_fall_49 rfl (lv_at hl 1 rfl) ?_
        refine lv_iload_n hx hb dX10_fall_50 rfl (lv_at hl 2 rfl) ?_
        obtain ⟨r4, e5, h⟩ := bnd_some h
        refine wcallV1 (As := [.int p1, .int p2]) (rest := []) C hw (c_X10_airFall hW  e5) vlX10_253 ⟨Nat.le_of_ble_eq_true rfl, Nat.le_of_ble_eq_true rfl⟩ (rfl : _ = some (0, 10)) rfl rfl rfl hl.1 (Nat.le_of_ble_eq_true rfl) dX10_fall_51 ⟨Nat.zero_le _, Nat.zero_le _⟩ (fun H locs hw => ?_)
        exact wretI_R C hw h dX10_fall_54
      · replace h := (if_pos c3).symm.trans h
        refine lv_sipush (v := (-10000)) hx hb dX10_fall_44 (by decide) ?_
        exact wretI_R C hw h dX10_fall_47
set_option maxRecDepth 100000 in
set_option maxHeartbeats 4000000 in
theorem c_X10_cliff {l : Launch} {P : Wp} {E : State → Heap → Prop} (hW : Wok shC P E) {p1 : Int32} {M : Mem} {r : Int32} (h : f_X10_cliff p1 M = some r) : CT l shC P E yX10_cliff bX10_cliff 4 ((some .int)) 4 109 [.ref (P.2.2.1 0), .int p1] (some (.int r)) M M := by
  refine ct_of hW (by decide) (Nat.le_of_ble_eq_true rfl) (fun p e s m args below meth c C ls hl hw => ?_)
  have hx := C.1
  have hb := C.2.1
  replace hl : lv_has ls 4 [(0, .ref (P.2.2.1 0)), (1, .int p1)] := hl
  have cut_21 : ∀ (n_21 : Nat) (v2_21 : Int32) (v3_21 : Int32) (ls : Array Slot) (H : Heap) (locs : List Loc), lv_has ls 4 [(0, .ref (P.2.2.1 0)), (1, .int p1), (2, .int v2_21), (3, .int v3_21)] → Hw shC P M s H locs → lq2 (L_X10_cliff_21 p1 M) n_21 v2_21 v3_21 = some r → W p l e { frames := 4, cells := 0, slots := 0, locals := 109 } s m args below meth c H locs 0 0 (MQ below (CQ shC P E (some (.int r)) M) args s 0 0 (wA shC P)) (F0 m 21 ls []) := by
    intro n_21
    induction n_21 with
    | zero => intro v2_21 v3_21 ls H locs hl hw h; cases h
    | succ n_21 ih_21 =>
      intro v2_21 v3_21 ls H locs hl hw h
      replace h := lq2_succ h
      refine lv_iload_n hx hb dX10_cliff_21 rfl (lv_at hl 3 rfl) ?_
      refine lv_iconst (v := 1) hx hb dX10_cliff_22 (by decide) ?_
      refine lv_iadd hx hb dX10_cliff_23 ?_
      refine lv_aload_n hx hb dX10_cliff_24 rfl (lv_at hl 0 rfl) ?_
      refine wgetR (t := 13) C hw flX10_49 (rfl : _ = some (0, 10)) rfl dX10_cliff_25 ?_
      refine wgetR (t := 14) C hw flX10_106 (rfl : _ = some (0, 1)) rfl dX10_cliff_28 ?_
      refine wgetI C hw flX10_237 (rfl : _ = some (0, 5)) dX10_cliff_31 ?_
      refine lv_icmp_ge (tgt := 65) hx hb dX10_cliff_34 (by decide) (fun c2 => ?_) (fun c2 => ?_)
      · replace h := (if_pos c2).symm.trans h
        refine lv_iload_n hx hb dX10_cliff_65 rfl (lv_at hl 2 rfl) ?_
        exact wretI_R C hw h dX10_cliff_66
      · replace h := (if_neg c2).symm.trans h
        refine lv_iload_n hx hb dX10_cliff_37 rfl (lv_at hl 2 rfl) ?_
        refine lv_iconst (v := (-1)) hx hb dX10_cliff_38 (by decide) ?_
        refine lv_icmp_eq (tgt := 57) hx hb dX10_cliff_39 (by decide) (fun c3 => ?_) (fun c3 => ?_)
        · replace h := (if_pos c3).symm.trans h
          refine lv_iload_n hx hb dX10_cliff_57 rfl (lv_at hl 3 rfl) ?_
          refine lv_istore_n (lv' := [(2, .int v3_21), (0, .ref (P.2.2.1 0)), (1, .int p1), (3, .int v3_21)]) hx hb dX10_cliff_58 rfl hl (by decide) rfl (fun ls hl => ?_)
          refine lv_iinc (v := (v3_21 + 1)) (lv' := [(3, .int (v3_21 + 1)), (2, .int v3_21), (0, .ref (P.2.2.1 0)), (1, .int p1)]) (k := 3) hx hb dX10_cliff_59 hl rfl (congrArg (fun z => v3_21 + z) (by decide)) (by decide) rfl (fun ls hl => ?_)
          refine lv_goto (tgt := 21) hx hb dX10_cliff_62 (by decide) ?_
          exact ih_21 v3_21 (v3_21 + 1) ls _ _ (lv_sub hl [2, 3, 1, 0] rfl) hw h
        · replace h := (if_neg c3).symm.trans h
          refine lv_aload_n hx hb dX10_cliff_42 rfl (lv_at hl 0 rfl) ?_
          refine lv_iload_n hx hb dX10_cliff_43 rfl (lv_at hl 3 rfl) ?_
          refine lv_iload_n hx hb dX10_cliff_44 rfl (lv_at hl 1 rfl) ?_
          obtain ⟨r4, e5, h⟩ := bnd_some h
          refine wcallV1 (As := [.int v3_21, .int p1]) (rest := []) C hw (c_X10_airFall hW  e5) vlX10_253 ⟨Nat.le_of_ble_eq_true rfl, Nat.le_of_ble_eq_true rfl⟩ (rfl : _ = some (0, 10)) rfl rfl rfl hl.1 (Nat.le_of_ble_eq_true rfl) dX10_cliff_45 ⟨Nat.zero_le _, Nat.zero_le _⟩ (fun H locs hw => ?_)
          refine lv_aload_n hx hb dX10_cliff_48 rfl (lv_at hl 0 rfl) ?_
          refine lv_iload_n hx hb dX10_cliff_49 rfl (lv_at hl 2 rfl) ?_
          refine lv_iload_n hx hb dX10_cliff_50 rfl (lv_at hl 1 rfl) ?_
          obtain ⟨r6, e7, h⟩ := bnd_some h
          refine wcallV1 (As := [.int v2_21, .int p1]) (rest := [.int r4]) C hw (c_X10_airFall hW  e7) vlX10_253 ⟨Nat.le_of_ble_eq_true rfl, Nat.le_of_ble_eq_true rfl⟩ (rfl : _ = some (0, 10)) rfl rfl rfl hl.1 (Nat.le_of_ble_eq_true rfl) dX10_cliff_51 ⟨Nat.zero_le _, Nat.zero_le _⟩ (fun H locs hw => ?_)
          refine lv_icmp_le (tgt := 59) hx hb dX10_cliff_54 (by decide) (fun c8 => ?_) (fun c8 => ?_)
          · replace h := (if_pos c8).symm.trans h
            refine lv_iinc (v := (v3_21 + 1)) (lv' := [(3, .int (v3_21 + 1)), (0, .ref (P.2.2.1 0)), (1, .int p1), (2, .int v2_21)]) (k := 3) hx hb dX10_cliff_59 hl rfl (congrArg (fun z => v3_21 + z) (by decide)) (by decide) rfl (fun ls hl => ?_)
            refine lv_goto (tgt := 21) hx hb dX10_cliff_62 (by decide) ?_
            exact ih_21 v2_21 (v3_21 + 1) ls _ _ (lv_sub hl [1, 2, 3, 0] rfl) hw h
          · replace h := (if_neg c8).symm.trans h
            refine lv_iload_n hx hb dX10_cliff_57 rfl (lv_at hl 3 rfl) ?_
            refine lv_istore_n (lv' := [(2, .int v3_21), (0, .ref (P.2.2.1 0)), (1, .int p1), (3, .int v3_21)]) hx hb dX10_cliff_58 rfl hl (by decide) rfl (fun ls hl => ?_)
            refine lv_iinc (v := (v3_21 + 1)) (lv' := [(3, .int (v3_21 + 1)), (2, .int v3_21), (0, .ref (P.2.2.1 0)), (1, .int p1)]) (k := 3) hx hb dX10_cliff_59 hl rfl (congrArg (fun z => v3_21 + z) (by decide)) (by decide) rfl (fun ls hl => ?_)
            refine lv_goto (tgt := 21) hx hb dX10_cliff_62 (by decide) ?_
            exact ih_21 v3_21 (v3_21 + 1) ls _ _ (lv_sub hl [2, 3, 1, 0] rfl) hw h
  refine lv_aload_n hx hb dX10_cliff_0 rfl (lv_at hl 0 rfl) ?_
  refine wgetR (t := 13) C hw flX10_49 (rfl : _ = some (0, 10)) rfl dX10_cliff_1 ?_
  refine wgetR (t := 14) C hw flX10_106 (rfl : _ = some (0, 1)) rfl dX10_cliff_4 ?_
  refine lv_iload_n hx hb dX10_cliff_7 rfl (lv_at hl 1 rfl) ?_
  refine wcallV1 (As := [.int p1]) (rest := []) C hw (c_X5_hasStep hW (rfl : _ = some (0, 5)) rfl) vlX10_147 ⟨Nat.le_of_ble_eq_true rfl, Nat.le_of_ble_eq_true rfl⟩ (rfl : _ = some (0, 5)) rfl rfl rfl hl.1 (Nat.le_of_ble_eq_true rfl) dX10_cliff_8 ⟨Nat.zero_le _, Nat.zero_le _⟩ (fun H locs hw => ?_)
  refine lv_if_ne (tgt := 17) hx hb dX10_cliff_11 (by decide) (fun c1 => ?_) (fun c1 => ?_)
  · replace h := (if_neg c1).symm.trans h
    refine lv_iconst (v := (-1)) hx hb dX10_cliff_17 (by decide) ?_
    refine lv_istore_n (lv' := [(2, .int (-1)), (0, .ref (P.2.2.1 0)), (1, .int p1)]) hx hb dX10_cliff_18 rfl hl (by decide) rfl (fun ls hl => ?_)
    refine lv_iconst (v := 0) hx hb dX10_cliff_19 (by decide) ?_
    refine lv_istore_n (lv' := [(3, .int 0), (2, .int (-1)), (0, .ref (P.2.2.1 0)), (1, .int p1)]) hx hb dX10_cliff_20 rfl hl (by decide) rfl (fun ls hl => ?_)
    exact cut_21 FU (-1) 0 ls _ _ (lv_sub hl [2, 3, 1, 0] rfl) hw h
  · replace h := (if_pos c1).symm.trans h
    refine lv_bipush (v := (-2)) hx hb dX10_cliff_14 (by decide) ?_
    exact wretI_R C hw h dX10_cliff_16
set_option maxRecDepth 100000 in
set_option maxHeartbeats 4000000 in
theorem c_X10_least {l : Launch} {P : Wp} {E : State → Heap → Prop} (hW : Wok shC P E) {p1 : Int32} {M : Mem} {r : Int32} {M' : Mem} (h : f_X10_least p1 M = some (r, M')) : CT l shC P E yX10_least bX10_least 2 ((some .int)) 5 138 [.ref (P.2.2.1 0), .int p1] (some (.int r)) M M' := by
  refine ct_of hW (by decide) (Nat.le_of_ble_eq_true rfl) (fun p e s m args below meth c C ls hl hw => ?_)
  have hx := C.1
  have hb := C.2.1
  replace hl : lv_has ls 2 [(0, .ref (P.2.2.1 0)), (1, .int p1)] := hl
  refine lv_aload_n hx hb dX10_least_0 rfl (lv_at hl 0 rfl) ?_
  refine wgetR (t := 13) C hw flX10_49 (rfl : _ = some (0, 10)) rfl dX10_least_1 ?_
  refine wgetR (t := 14) C hw flX10_106 (rfl : _ = some (0, 1)) rfl dX10_least_4 ?_
  refine lv_iload_n hx hb dX10_least_7 rfl (lv_at hl 1 rfl) ?_
  refine wcallV1 (As := [.int p1]) (rest := []) C hw (c_X5_hasPiece hW (rfl : _ = some (0, 5)) rfl) vlX10_132 ⟨Nat.le_of_ble_eq_true rfl, Nat.le_of_ble_eq_true rfl⟩ (rfl : _ = some (0, 5)) rfl rfl rfl hl.1 (Nat.le_of_ble_eq_true rfl) dX10_least_8 ⟨Nat.zero_le _, Nat.zero_le _⟩ (fun H locs hw => ?_)
  refine lv_if_eq (tgt := 25) hx hb dX10_least_11 (by decide) (fun c1 => ?_) (fun c1 => ?_)
  · replace h := (if_pos c1).symm.trans h
    refine lv_bipush (v := (-2)) hx hb dX10_least_25 (by decide) ?_
    exact wretI_W C hw h dX10_least_27
  · replace h := (if_neg c1).symm.trans h
    refine lv_aload_n hx hb dX10_least_14 rfl (lv_at hl 0 rfl) ?_
    obtain ⟨M4, e3, h⟩ := bnd_some h
    refine wcallV1 (As := []) (rest := []) C hw (c_X10_followedCourse hW  e3) vlX10_171 ⟨Nat.le_of_ble_eq_true rfl, Nat.le_of_ble_eq_true rfl⟩ (rfl : _ = some (0, 10)) rfl rfl rfl hl.1 (Nat.le_of_ble_eq_true rfl) dX10_least_15 ⟨Nat.zero_le _, Nat.zero_le _⟩ (fun H locs hw => ?_)
    refine lv_iload_n hx hb dX10_least_18 rfl (lv_at hl 1 rfl) ?_
    obtain ⟨r5, e6, h⟩ := bnd_some h
    refine wcallV1 (As := [.int p1]) (rest := []) C hw (c_X2_leastSkin hW (rfl : _ = some (0, 2)) e6) vlX10_256 ⟨Nat.le_of_ble_eq_true rfl, Nat.le_of_ble_eq_true rfl⟩ (rfl : _ = some (0, 2)) rfl rfl rfl hl.1 (Nat.le_of_ble_eq_true rfl) dX10_least_19 ⟨Nat.zero_le _, Nat.zero_le _⟩ (fun H locs hw => ?_)
    refine lv_goto (tgt := 27) hx hb dX10_least_22 (by decide) ?_
    exact wretI_W C hw h dX10_least_27
set_option maxRecDepth 100000 in
set_option maxHeartbeats 4000000 in
theorem c_X10_chill {l : Launch} {P : Wp} {E : State → Heap → Prop} (hW : Wok shC P E) {p1 : Int32} {M : Mem} {r : Int32} {M' : Mem} (h : f_X10_chill p1 M = some (r, M')) : CT l shC P E yX10_chill bX10_chill 2 ((some .int)) 5 138 [.ref (P.2.2.1 0), .int p1] (some (.int r)) M M' := by
  refine ct_of hW (by decide) (Nat.le_of_ble_eq_true rfl) (fun p e s m args below meth c C ls hl hw => ?_)
  have hx := C.1
  have hb := C.2.1
  replace hl : lv_has ls 2 [(0, .ref (P.2.2.1 0)), (1, .int p1)] := hl
  refine lv_aload_n hx hb dX10_chill_0 rfl (lv_at hl 0 rfl) ?_
  refine wgetR (t := 13) C hw flX10_49 (rfl : _ = some (0, 10)) rfl dX10_chill_1 ?_
  refine wgetR (t := 14) C hw flX10_106 (rfl : _ = some (0, 1)) rfl dX10_chill_4 ?_
  refine lv_iload_n hx hb dX10_chill_7 rfl (lv_at hl 1 rfl) ?_
  refine wcallV1 (As := [.int p1]) (rest := []) C hw (c_X5_hasPiece hW (rfl : _ = some (0, 5)) rfl) vlX10_132 ⟨Nat.le_of_ble_eq_true rfl, Nat.le_of_ble_eq_true rfl⟩ (rfl : _ = some (0, 5)) rfl rfl rfl hl.1 (Nat.le_of_ble_eq_true rfl) dX10_chill_8 ⟨Nat.zero_le _, Nat.zero_le _⟩ (fun H locs hw => ?_)
  refine lv_if_eq (tgt := 25) hx hb dX10_chill_11 (by decide) (fun c1 => ?_) (fun c1 => ?_)
  · replace h := (if_pos c1).symm.trans h
    refine lv_bipush (v := (-2)) hx hb dX10_chill_25 (by decide) ?_
    exact wretI_W C hw h dX10_chill_27
  · replace h := (if_neg c1).symm.trans h
    refine lv_aload_n hx hb dX10_chill_14 rfl (lv_at hl 0 rfl) ?_
    obtain ⟨M4, e3, h⟩ := bnd_some h
    refine wcallV1 (As := []) (rest := []) C hw (c_X10_followedCourse hW  e3) vlX10_171 ⟨Nat.le_of_ble_eq_true rfl, Nat.le_of_ble_eq_true rfl⟩ (rfl : _ = some (0, 10)) rfl rfl rfl hl.1 (Nat.le_of_ble_eq_true rfl) dX10_chill_15 ⟨Nat.zero_le _, Nat.zero_le _⟩ (fun H locs hw => ?_)
    refine lv_iload_n hx hb dX10_chill_18 rfl (lv_at hl 1 rfl) ?_
    obtain ⟨r5, e6, h⟩ := bnd_some h
    refine wcallV1 (As := [.int p1]) (rest := []) C hw (c_X2_chillStep hW (rfl : _ = some (0, 2)) e6) vlX10_259 ⟨Nat.le_of_ble_eq_true rfl, Nat.le_of_ble_eq_true rfl⟩ (rfl : _ = some (0, 2)) rfl rfl rfl hl.1 (Nat.le_of_ble_eq_true rfl) dX10_chill_19 ⟨Nat.zero_le _, Nat.zero_le _⟩ (fun H locs hw => ?_)
    refine lv_goto (tgt := 27) hx hb dX10_chill_22 (by decide) ?_
    exact wretI_W C hw h dX10_chill_27
set_option maxRecDepth 100000 in
set_option maxHeartbeats 4000000 in
theorem c_X10_drop {l : Launch} {P : Wp} {E : State → Heap → Prop} (hW : Wok shC P E) {p1 : Int32} {p2 : Int32} {M : Mem} {r : Int32} {M' : Mem} (h : f_X10_drop p1 p2 M = some (r, M')) : CT l shC P E yX10_drop bX10_drop 3 ((some .int)) 5 138 [.ref (P.2.2.1 0), .int p1, .int p2] (some (.int r)) M M' := by
  refine ct_of hW (by decide) (Nat.le_of_ble_eq_true rfl) (fun p e s m args below meth c C ls hl hw => ?_)
  have hx := C.1
  have hb := C.2.1
  replace hl : lv_has ls 3 [(0, .ref (P.2.2.1 0)), (1, .int p1), (2, .int p2)] := hl
  refine lv_aload_n hx hb dX10_drop_0 rfl (lv_at hl 0 rfl) ?_
  refine wgetR (t := 13) C hw flX10_49 (rfl : _ = some (0, 10)) rfl dX10_drop_1 ?_
  refine wgetR (t := 14) C hw flX10_106 (rfl : _ = some (0, 1)) rfl dX10_drop_4 ?_
  refine lv_iload_n hx hb dX10_drop_7 rfl (lv_at hl 1 rfl) ?_
  refine wcallV1 (As := [.int p1]) (rest := []) C hw (c_X5_hasPiece hW (rfl : _ = some (0, 5)) rfl) vlX10_132 ⟨Nat.le_of_ble_eq_true rfl, Nat.le_of_ble_eq_true rfl⟩ (rfl : _ = some (0, 5)) rfl rfl rfl hl.1 (Nat.le_of_ble_eq_true rfl) dX10_drop_8 ⟨Nat.zero_le _, Nat.zero_le _⟩ (fun H locs hw => ?_)
  refine lv_if_eq (tgt := 28) hx hb dX10_drop_11 (by decide) (fun c1 => ?_) (fun c1 => ?_)
  · replace h := (if_pos c1).symm.trans h
    refine lv_ldcw hx hb C.2.2.2.1 (C.2.2.2.2.1 _ (List.mem_cons_of_mem _ (gm kcX10_265 rfl))) dX10_drop_28 ?_
    exact wretI_W C hw h dX10_drop_31
  · replace h := (if_neg c1).symm.trans h
    refine lv_aload_n hx hb dX10_drop_14 rfl (lv_at hl 0 rfl) ?_
    refine wgetR (t := 13) C hw flX10_49 (rfl : _ = some (0, 10)) rfl dX10_drop_15 ?_
    refine wgetR (t := 14) C hw flX10_106 (rfl : _ = some (0, 1)) rfl dX10_drop_18 ?_
    refine lv_iload_n hx hb dX10_drop_21 rfl (lv_at hl 2 rfl) ?_
    refine wcallV1 (As := [.int p2]) (rest := []) C hw (c_X5_hasStepAhead hW (rfl : _ = some (0, 5)) rfl) vlX10_262 ⟨Nat.le_of_ble_eq_true rfl, Nat.le_of_ble_eq_true rfl⟩ (rfl : _ = some (0, 5)) rfl rfl rfl hl.1 (Nat.le_of_ble_eq_true rfl) dX10_drop_22 ⟨Nat.zero_le _, Nat.zero_le _⟩ (fun H locs hw => ?_)
    refine lv_if_ne (tgt := 32) hx hb dX10_drop_25 (by decide) (fun c2 => ?_) (fun c2 => ?_)
    · replace h := (if_neg c2).symm.trans h
      refine lv_aload_n hx hb dX10_drop_32 rfl (lv_at hl 0 rfl) ?_
      obtain ⟨M5, e4, h⟩ := bnd_some h
      refine wcallV1 (As := []) (rest := []) C hw (c_X10_followedCourse hW  e4) vlX10_171 ⟨Nat.le_of_ble_eq_true rfl, Nat.le_of_ble_eq_true rfl⟩ (rfl : _ = some (0, 10)) rfl rfl rfl hl.1 (Nat.le_of_ble_eq_true rfl) dX10_drop_33 ⟨Nat.zero_le _, Nat.zero_le _⟩ (fun H locs hw => ?_)
      refine lv_iload_n hx hb dX10_drop_36 rfl (lv_at hl 1 rfl) ?_
      refine lv_iload_n hx hb dX10_drop_37 rfl (lv_at hl 2 rfl) ?_
      obtain ⟨r6, e7, h⟩ := bnd_some h
      refine wcallV1 (As := [.int p1, .int p2]) (rest := []) C hw (c_X2_skinFall hW (rfl : _ = some (0, 2)) e7) vlX10_266 ⟨Nat.le_of_ble_eq_true rfl, Nat.le_of_ble_eq_true rfl⟩ (rfl : _ = some (0, 2)) rfl rfl rfl hl.1 (Nat.le_of_ble_eq_true rfl) dX10_drop_38 ⟨Nat.zero_le _, Nat.zero_le _⟩ (fun H locs hw => ?_)
      exact wretI_W C hw h dX10_drop_41
    · replace h := (if_pos c2).symm.trans h
      refine lv_ldcw hx hb C.2.2.2.1 (C.2.2.2.2.1 _ (List.mem_cons_of_mem _ (gm kcX10_265 rfl))) dX10_drop_28 ?_
      exact wretI_W C hw h dX10_drop_31
set_option maxRecDepth 100000 in
set_option maxHeartbeats 4000000 in
theorem c_X10_gaps {l : Launch} {P : Wp} {E : State → Heap → Prop} (hW : Wok shC P E) {p1 : Int32} {M : Mem} {r : Int32} {M' : Mem} (h : f_X10_gaps p1 M = some (r, M')) : CT l shC P E yX10_gaps bX10_gaps 2 ((some .int)) 5 138 [.ref (P.2.2.1 0), .int p1] (some (.int r)) M M' := by
  refine ct_of hW (by decide) (Nat.le_of_ble_eq_true rfl) (fun p e s m args below meth c C ls hl hw => ?_)
  have hx := C.1
  have hb := C.2.1
  replace hl : lv_has ls 2 [(0, .ref (P.2.2.1 0)), (1, .int p1)] := hl
  refine lv_aload_n hx hb dX10_gaps_0 rfl (lv_at hl 0 rfl) ?_
  refine wgetR (t := 13) C hw flX10_49 (rfl : _ = some (0, 10)) rfl dX10_gaps_1 ?_
  refine wgetR (t := 14) C hw flX10_106 (rfl : _ = some (0, 1)) rfl dX10_gaps_4 ?_
  refine lv_iload_n hx hb dX10_gaps_7 rfl (lv_at hl 1 rfl) ?_
  refine wcallV1 (As := [.int p1]) (rest := []) C hw (c_X5_hasPiece hW (rfl : _ = some (0, 5)) rfl) vlX10_132 ⟨Nat.le_of_ble_eq_true rfl, Nat.le_of_ble_eq_true rfl⟩ (rfl : _ = some (0, 5)) rfl rfl rfl hl.1 (Nat.le_of_ble_eq_true rfl) dX10_gaps_8 ⟨Nat.zero_le _, Nat.zero_le _⟩ (fun H locs hw => ?_)
  refine lv_if_eq (tgt := 25) hx hb dX10_gaps_11 (by decide) (fun c1 => ?_) (fun c1 => ?_)
  · replace h := (if_pos c1).symm.trans h
    refine lv_bipush (v := (-2)) hx hb dX10_gaps_25 (by decide) ?_
    exact wretI_W C hw h dX10_gaps_27
  · replace h := (if_neg c1).symm.trans h
    refine lv_aload_n hx hb dX10_gaps_14 rfl (lv_at hl 0 rfl) ?_
    obtain ⟨M4, e3, h⟩ := bnd_some h
    refine wcallV1 (As := []) (rest := []) C hw (c_X10_followedCourse hW  e3) vlX10_171 ⟨Nat.le_of_ble_eq_true rfl, Nat.le_of_ble_eq_true rfl⟩ (rfl : _ = some (0, 10)) rfl rfl rfl hl.1 (Nat.le_of_ble_eq_true rfl) dX10_gaps_15 ⟨Nat.zero_le _, Nat.zero_le _⟩ (fun H locs hw => ?_)
    refine lv_iload_n hx hb dX10_gaps_18 rfl (lv_at hl 1 rfl) ?_
    obtain ⟨r5, e6, h⟩ := bnd_some h
    refine wcallV1 (As := [.int p1]) (rest := []) C hw (c_X2_strainedSteps hW (rfl : _ = some (0, 2)) e6) vlX10_269 ⟨Nat.le_of_ble_eq_true rfl, Nat.le_of_ble_eq_true rfl⟩ (rfl : _ = some (0, 2)) rfl rfl rfl hl.1 (Nat.le_of_ble_eq_true rfl) dX10_gaps_19 ⟨Nat.zero_le _, Nat.zero_le _⟩ (fun H locs hw => ?_)
    refine lv_goto (tgt := 27) hx hb dX10_gaps_22 (by decide) ?_
    exact wretI_W C hw h dX10_gaps_27
set_option maxRecDepth 100000 in
set_option maxHeartbeats 4000000 in
theorem c_X10_spread {l : Launch} {P : Wp} {E : State → Heap → Prop} (hW : Wok shC P E) {p1 : Int32} {M : Mem} {r : Int32} {M' : Mem} (h : f_X10_spread p1 M = some (r, M')) : CT l shC P E yX10_spread bX10_spread 2 ((some .int)) 5 138 [.ref (P.2.2.1 0), .int p1] (some (.int r)) M M' := by
  refine ct_of hW (by decide) (Nat.le_of_ble_eq_true rfl) (fun p e s m args below meth c C ls hl hw => ?_)
  have hx := C.1
  have hb := C.2.1
  replace hl : lv_has ls 2 [(0, .ref (P.2.2.1 0)), (1, .int p1)] := hl
  refine lv_aload_n hx hb dX10_spread_0 rfl (lv_at hl 0 rfl) ?_
  refine wgetR (t := 13) C hw flX10_49 (rfl : _ = some (0, 10)) rfl dX10_spread_1 ?_
  refine wgetR (t := 14) C hw flX10_106 (rfl : _ = some (0, 1)) rfl dX10_spread_4 ?_
  refine lv_iload_n hx hb dX10_spread_7 rfl (lv_at hl 1 rfl) ?_
  refine wcallV1 (As := [.int p1]) (rest := []) C hw (c_X5_hasStep hW (rfl : _ = some (0, 5)) rfl) vlX10_147 ⟨Nat.le_of_ble_eq_true rfl, Nat.le_of_ble_eq_true rfl⟩ (rfl : _ = some (0, 5)) rfl rfl rfl hl.1 (Nat.le_of_ble_eq_true rfl) dX10_spread_8 ⟨Nat.zero_le _, Nat.zero_le _⟩ (fun H locs hw => ?_)
  refine lv_if_eq (tgt := 25) hx hb dX10_spread_11 (by decide) (fun c1 => ?_) (fun c1 => ?_)
  · replace h := (if_pos c1).symm.trans h
    refine lv_bipush (v := (-2)) hx hb dX10_spread_25 (by decide) ?_
    exact wretI_W C hw h dX10_spread_27
  · replace h := (if_neg c1).symm.trans h
    refine lv_aload_n hx hb dX10_spread_14 rfl (lv_at hl 0 rfl) ?_
    obtain ⟨M4, e3, h⟩ := bnd_some h
    refine wcallV1 (As := []) (rest := []) C hw (c_X10_followedCourse hW  e3) vlX10_171 ⟨Nat.le_of_ble_eq_true rfl, Nat.le_of_ble_eq_true rfl⟩ (rfl : _ = some (0, 10)) rfl rfl rfl hl.1 (Nat.le_of_ble_eq_true rfl) dX10_spread_15 ⟨Nat.zero_le _, Nat.zero_le _⟩ (fun H locs hw => ?_)
    refine lv_iload_n hx hb dX10_spread_18 rfl (lv_at hl 1 rfl) ?_
    obtain ⟨r5, e6, h⟩ := bnd_some h
    refine wcallV1 (As := [.int p1]) (rest := []) C hw (c_X2_skinSpread hW (rfl : _ = some (0, 2)) e6) vlX10_272 ⟨Nat.le_of_ble_eq_true rfl, Nat.le_of_ble_eq_true rfl⟩ (rfl : _ = some (0, 2)) rfl rfl rfl hl.1 (Nat.le_of_ble_eq_true rfl) dX10_spread_19 ⟨Nat.zero_le _, Nat.zero_le _⟩ (fun H locs hw => ?_)
    refine lv_goto (tgt := 27) hx hb dX10_spread_22 (by decide) ?_
    exact wretI_W C hw h dX10_spread_27
set_option maxRecDepth 100000 in
set_option maxHeartbeats 4000000 in
theorem c_X10_coming {l : Launch} {P : Wp} {E : State → Heap → Prop} (hW : Wok shC P E) {p1 : Int32} {M : Mem} {r : Int32} (h : f_X10_coming p1 M = some r) : CT l shC P E yX10_coming bX10_coming 2 ((some .int)) 4 87 [.ref (P.2.2.1 0), .int p1] (some (.int r)) M M := by
  refine ct_of hW (by decide) (Nat.le_of_ble_eq_true rfl) (fun p e s m args below meth c C ls hl hw => ?_)
  have hx := C.1
  have hb := C.2.1
  replace hl : lv_has ls 2 [(0, .ref (P.2.2.1 0)), (1, .int p1)] := hl
  refine lv_aload_n hx hb dX10_coming_0 rfl (lv_at hl 0 rfl) ?_
  refine wgetR (t := 13) C hw flX10_49 (rfl : _ = some (0, 10)) rfl dX10_coming_1 ?_
  refine wgetR (t := 14) C hw flX10_106 (rfl : _ = some (0, 1)) rfl dX10_coming_4 ?_
  refine lv_iload_n hx hb dX10_coming_7 rfl (lv_at hl 1 rfl) ?_
  refine wcallV1 (As := [.int p1]) (rest := []) C hw (c_X5_hasStep hW (rfl : _ = some (0, 5)) rfl) vlX10_147 ⟨Nat.le_of_ble_eq_true rfl, Nat.le_of_ble_eq_true rfl⟩ (rfl : _ = some (0, 5)) rfl rfl rfl hl.1 (Nat.le_of_ble_eq_true rfl) dX10_coming_8 ⟨Nat.zero_le _, Nat.zero_le _⟩ (fun H locs hw => ?_)
  refine lv_if_eq (tgt := 28) hx hb dX10_coming_11 (by decide) (fun c1 => ?_) (fun c1 => ?_)
  · replace h := (if_pos c1).symm.trans h
    refine lv_bipush (v := (-2)) hx hb dX10_coming_28 (by decide) ?_
    exact wretI_R C hw h dX10_coming_30
  · replace h := (if_neg c1).symm.trans h
    refine lv_aload_n hx hb dX10_coming_14 rfl (lv_at hl 0 rfl) ?_
    refine wgetR (t := 13) C hw flX10_49 (rfl : _ = some (0, 10)) rfl dX10_coming_15 ?_
    refine wgetR (t := 14) C hw flX10_106 (rfl : _ = some (0, 1)) rfl dX10_coming_18 ?_
    refine lv_iload_n hx hb dX10_coming_21 rfl (lv_at hl 1 rfl) ?_
    obtain ⟨r2, e3, h⟩ := bnd_some h
    refine wcallV1 (As := [.int p1]) (rest := []) C hw (c_X5_comingAt hW (rfl : _ = some (0, 5)) e3) vlX10_275 ⟨Nat.le_of_ble_eq_true rfl, Nat.le_of_ble_eq_true rfl⟩ (rfl : _ = some (0, 5)) rfl rfl rfl hl.1 (Nat.le_of_ble_eq_true rfl) dX10_coming_22 ⟨Nat.zero_le _, Nat.zero_le _⟩ (fun H locs hw => ?_)
    refine lv_goto (tgt := 30) hx hb dX10_coming_25 (by decide) ?_
    exact wretI_R C hw h dX10_coming_30
set_option maxRecDepth 100000 in
set_option maxHeartbeats 4000000 in
theorem c_X10_cracked {l : Launch} {P : Wp} {E : State → Heap → Prop} (hW : Wok shC P E) {p1 : Int32} {M : Mem} {r : Int32} {M' : Mem} (h : f_X10_cracked p1 M = some (r, M')) : CT l shC P E yX10_cracked bX10_cracked 2 ((some .int)) 5 138 [.ref (P.2.2.1 0), .int p1] (some (.int r)) M M' := by
  refine ct_of hW (by decide) (Nat.le_of_ble_eq_true rfl) (fun p e s m args below meth c C ls hl hw => ?_)
  have hx := C.1
  have hb := C.2.1
  replace hl : lv_has ls 2 [(0, .ref (P.2.2.1 0)), (1, .int p1)] := hl
  refine lv_aload_n hx hb dX10_cracked_0 rfl (lv_at hl 0 rfl) ?_
  refine wgetR (t := 13) C hw flX10_49 (rfl : _ = some (0, 10)) rfl dX10_cracked_1 ?_
  refine wgetR (t := 14) C hw flX10_106 (rfl : _ = some (0, 1)) rfl dX10_cracked_4 ?_
  refine lv_iload_n hx hb dX10_cracked_7 rfl (lv_at hl 1 rfl) ?_
  refine wcallV1 (As := [.int p1]) (rest := []) C hw (c_X5_hasStep hW (rfl : _ = some (0, 5)) rfl) vlX10_147 ⟨Nat.le_of_ble_eq_true rfl, Nat.le_of_ble_eq_true rfl⟩ (rfl : _ = some (0, 5)) rfl rfl rfl hl.1 (Nat.le_of_ble_eq_true rfl) dX10_cracked_8 ⟨Nat.zero_le _, Nat.zero_le _⟩ (fun H locs hw => ?_)
  refine lv_if_eq (tgt := 25) hx hb dX10_cracked_11 (by decide) (fun c1 => ?_) (fun c1 => ?_)
  · replace h := (if_pos c1).symm.trans h
    refine lv_bipush (v := (-2)) hx hb dX10_cracked_25 (by decide) ?_
    exact wretI_W C hw h dX10_cracked_27
  · replace h := (if_neg c1).symm.trans h
    refine lv_aload_n hx hb dX10_cracked_14 rfl (lv_at hl 0 rfl) ?_
    obtain ⟨M4, e3, h⟩ := bnd_some h
    refine wcallV1 (As := []) (rest := []) C hw (c_X10_followedCourse hW  e3) vlX10_171 ⟨Nat.le_of_ble_eq_true rfl, Nat.le_of_ble_eq_true rfl⟩ (rfl : _ = some (0, 10)) rfl rfl rfl hl.1 (Nat.le_of_ble_eq_true rfl) dX10_cracked_15 ⟨Nat.zero_le _, Nat.zero_le _⟩ (fun H locs hw => ?_)
    refine lv_iload_n hx hb dX10_cracked_18 rfl (lv_at hl 1 rfl) ?_
    obtain ⟨r5, e6, h⟩ := bnd_some h
    refine wcallV1 (As := [.int p1]) (rest := []) C hw (c_X2_crackingAt hW (rfl : _ = some (0, 2)) e6) vlX10_278 ⟨Nat.le_of_ble_eq_true rfl, Nat.le_of_ble_eq_true rfl⟩ (rfl : _ = some (0, 2)) rfl rfl rfl hl.1 (Nat.le_of_ble_eq_true rfl) dX10_cracked_19 ⟨Nat.zero_le _, Nat.zero_le _⟩ (fun H locs hw => ?_)
    refine lv_goto (tgt := 27) hx hb dX10_cracked_22 (by decide) ?_
    exact wretI_W C hw h dX10_cracked_27
set_option maxRecDepth 100000 in
set_option maxHeartbeats 4000000 in
theorem c_X10_kernel {l : Launch} {P : Wp} {E : State → Heap → Prop} (hW : Wok shC P E) {p1 : Int32} {M : Mem} {r : Int32} {M' : Mem} (h : f_X10_kernel p1 M = some (r, M')) : CT l shC P E yX10_kernel bX10_kernel 2 ((some .int)) 5 138 [.ref (P.2.2.1 0), .int p1] (some (.int r)) M M' := by
  refine ct_of hW (by decide) (Nat.le_of_ble_eq_true rfl) (fun p e s m args below meth c C ls hl hw => ?_)
  have hx := C.1
  have hb := C.2.1
  replace hl : lv_has ls 2 [(0, .ref (P.2.2.1 0)), (1, .int p1)] := hl
  refine lv_aload_n hx hb dX10_kernel_0 rfl (lv_at hl 0 rfl) ?_
  refine wgetR (t := 13) C hw flX10_49 (rfl : _ = some (0, 10)) rfl dX10_kernel_1 ?_
  refine wgetR (t := 14) C hw flX10_106 (rfl : _ = some (0, 1)) rfl dX10_kernel_4 ?_
  refine lv_iload_n hx hb dX10_kernel_7 rfl (lv_at hl 1 rfl) ?_
  refine wcallV1 (As := [.int p1]) (rest := []) C hw (c_X5_hasStep hW (rfl : _ = some (0, 5)) rfl) vlX10_147 ⟨Nat.le_of_ble_eq_true rfl, Nat.le_of_ble_eq_true rfl⟩ (rfl : _ = some (0, 5)) rfl rfl rfl hl.1 (Nat.le_of_ble_eq_true rfl) dX10_kernel_8 ⟨Nat.zero_le _, Nat.zero_le _⟩ (fun H locs hw => ?_)
  refine lv_if_eq (tgt := 26) hx hb dX10_kernel_11 (by decide) (fun c1 => ?_) (fun c1 => ?_)
  · replace h := (if_pos c1).symm.trans h
    refine lv_bipush (v := (-2)) hx hb dX10_kernel_26 (by decide) ?_
    exact wretI_W C hw h dX10_kernel_28
  · replace h := (if_neg c1).symm.trans h
    refine lv_aload_n hx hb dX10_kernel_14 rfl (lv_at hl 0 rfl) ?_
    obtain ⟨M4, e3, h⟩ := bnd_some h
    refine wcallV1 (As := []) (rest := []) C hw (c_X10_followedCourse hW  e3) vlX10_171 ⟨Nat.le_of_ble_eq_true rfl, Nat.le_of_ble_eq_true rfl⟩ (rfl : _ = some (0, 10)) rfl rfl rfl hl.1 (Nat.le_of_ble_eq_true rfl) dX10_kernel_15 ⟨Nat.zero_le _, Nat.zero_le _⟩ (fun H locs hw => ?_)
    refine lv_iconst (v := 1) hx hb dX10_kernel_18 (by decide) ?_
    refine lv_iload_n hx hb dX10_kernel_19 rfl (lv_at hl 1 rfl) ?_
    obtain ⟨r5, e6, h⟩ := bnd_some h
    refine wcallV1 (As := [.int 1, .int p1]) (rest := []) C hw (c_X2_mostOf hW (rfl : _ = some (0, 2)) e6) vlX10_213 ⟨Nat.le_of_ble_eq_true rfl, Nat.le_of_ble_eq_true rfl⟩ (rfl : _ = some (0, 2)) rfl rfl rfl hl.1 (Nat.le_of_ble_eq_true rfl) dX10_kernel_20 ⟨Nat.zero_le _, Nat.zero_le _⟩ (fun H locs hw => ?_)
    refine lv_goto (tgt := 28) hx hb dX10_kernel_23 (by decide) ?_
    exact wretI_W C hw h dX10_kernel_28
set_option maxRecDepth 100000 in
set_option maxHeartbeats 4000000 in
theorem c_X10_tally {l : Launch} {P : Wp} {E : State → Heap → Prop} (hW : Wok shC P E) {p1 : Int32} {M : Mem} {r : Int32} {M' : Mem} (h : f_X10_tally p1 M = some (r, M')) : CT l shC P E yX10_tally bX10_tally 2 ((some .int)) 5 138 [.ref (P.2.2.1 0), .int p1] (some (.int r)) M M' := by
  refine ct_of hW (by decide) (Nat.le_of_ble_eq_true rfl) (fun p e s m args below meth c C ls hl hw => ?_)
  have hx := C.1
  have hb := C.2.1
  replace hl : lv_has ls 2 [(0, .ref (P.2.2.1 0)), (1, .int p1)] := hl
  refine lv_aload_n hx hb dX10_tally_0 rfl (lv_at hl 0 rfl) ?_
  refine wgetR (t := 13) C hw flX10_49 (rfl : _ = some (0, 10)) rfl dX10_tally_1 ?_
  refine wgetR (t := 14) C hw flX10_106 (rfl : _ = some (0, 1)) rfl dX10_tally_4 ?_
  refine wcallV1 (As := []) (rest := []) C hw (c_X5_isTold hW (rfl : _ = some (0, 5)) rfl) vlX10_202 ⟨Nat.le_of_ble_eq_true rfl, Nat.le_of_ble_eq_true rfl⟩ (rfl : _ = some (0, 5)) rfl rfl rfl hl.1 (Nat.le_of_ble_eq_true rfl) dX10_tally_7 ⟨Nat.zero_le _, Nat.zero_le _⟩ (fun H locs hw => ?_)
  refine lv_if_eq (tgt := 22) hx hb dX10_tally_10 (by decide) (fun c1 => ?_) (fun c1 => ?_)
  · replace h := (if_pos c1).symm.trans h
    refine lv_bipush (v := (-2)) hx hb dX10_tally_22 (by decide) ?_
    exact wretI_W C hw h dX10_tally_24
  · replace h := (if_neg c1).symm.trans h
    refine lv_iload_n hx hb dX10_tally_13 rfl (lv_at hl 1 rfl) ?_
    refine lv_if_lt (tgt := 22) hx hb dX10_tally_14 (by decide) (fun c2 => ?_) (fun c2 => ?_)
    · replace h := (if_pos c2).symm.trans h
      refine lv_bipush (v := (-2)) hx hb dX10_tally_22 (by decide) ?_
      exact wretI_W C hw h dX10_tally_24
    · replace h := (if_neg c2).symm.trans h
      refine lv_iload_n hx hb dX10_tally_17 rfl (lv_at hl 1 rfl) ?_
      refine lv_iconst (v := 2) hx hb dX10_tally_18 (by decide) ?_
      refine lv_icmp_le (tgt := 25) hx hb dX10_tally_19 (by decide) (fun c3 => ?_) (fun c3 => ?_)
      · replace h := (if_pos c3).symm.trans h
        refine lv_aload_n hx hb dX10_tally_25 rfl (lv_at hl 0 rfl) ?_
        obtain ⟨M6, e5, h⟩ := bnd_some h
        refine wcallV1 (As := []) (rest := []) C hw (c_X10_followedCourse hW  e5) vlX10_171 ⟨Nat.le_of_ble_eq_true rfl, Nat.le_of_ble_eq_true rfl⟩ (rfl : _ = some (0, 10)) rfl rfl rfl hl.1 (Nat.le_of_ble_eq_true rfl) dX10_tally_26 ⟨Nat.zero_le _, Nat.zero_le _⟩ (fun H locs hw => ?_)
        refine lv_iload_n hx hb dX10_tally_29 rfl (lv_at hl 1 rfl) ?_
        obtain ⟨r7, e8, h⟩ := bnd_some h
        refine wcallV1 (As := [.int p1]) (rest := []) C hw (c_X2_countOfReason hW (rfl : _ = some (0, 2)) e8) vlX10_281 ⟨Nat.le_of_ble_eq_true rfl, Nat.le_of_ble_eq_true rfl⟩ (rfl : _ = some (0, 2)) rfl rfl rfl hl.1 (Nat.le_of_ble_eq_true rfl) dX10_tally_30 ⟨Nat.zero_le _, Nat.zero_le _⟩ (fun H locs hw => ?_)
        exact wretI_W C hw h dX10_tally_33
      · replace h := (if_neg c3).symm.trans h
        refine lv_bipush (v := (-2)) hx hb dX10_tally_22 (by decide) ?_
        exact wretI_W C hw h dX10_tally_24
set_option maxRecDepth 100000 in
set_option maxHeartbeats 4000000 in
theorem c_X10_last {l : Launch} {P : Wp} {E : State → Heap → Prop} (hW : Wok shC P E) {p1 : Int32} {M : Mem} {r : Int32} (h : f_X10_last p1 M = some r) : CT l shC P E yX10_last bX10_last 4 ((some .int)) 2 47 [.ref (P.2.2.1 0), .int p1] (some (.int r)) M M := by
  refine ct_of hW (by decide) (Nat.le_of_ble_eq_true rfl) (fun p e s m args below meth c C ls hl hw => ?_)
  have hx := C.1
  have hb := C.2.1
  replace hl : lv_has ls 4 [(0, .ref (P.2.2.1 0)), (1, .int p1)] := hl
  have cut_21 : ∀ (n_21 : Nat) (v2_21 : Int32) (v3_21 : Int32) (ls : Array Slot) (H : Heap) (locs : List Loc), lv_has ls 4 [(0, .ref (P.2.2.1 0)), (1, .int p1), (2, .int v2_21), (3, .int v3_21)] → Hw shC P M s H locs → lq2 (L_X10_last_21 p1 M) n_21 v2_21 v3_21 = some r → W p l e { frames := 2, cells := 0, slots := 0, locals := 47 } s m args below meth c H locs 0 0 (MQ below (CQ shC P E (some (.int r)) M) args s 0 0 (wA shC P)) (F0 m 21 ls []) := by
    intro n_21
    induction n_21 with
    | zero => intro v2_21 v3_21 ls H locs hl hw h; cases h
    | succ n_21 ih_21 =>
      intro v2_21 v3_21 ls H locs hl hw h
      replace h := lq2_succ h
      refine lv_iload_n hx hb dX10_last_21 rfl (lv_at hl 3 rfl) ?_
      refine lv_aload_n hx hb dX10_last_22 rfl (lv_at hl 0 rfl) ?_
      refine wgetR (t := 13) C hw flX10_49 (rfl : _ = some (0, 10)) rfl dX10_last_23 ?_
      refine wgetR (t := 14) C hw flX10_106 (rfl : _ = some (0, 1)) rfl dX10_last_26 ?_
      refine wgetI C hw flX10_210 (rfl : _ = some (0, 5)) dX10_last_29 ?_
      refine lv_icmp_gt (tgt := 58) hx hb dX10_last_32 (by decide) (fun c2 => ?_) (fun c2 => ?_)
      · replace h := (if_pos c2).symm.trans h
        refine lv_iload_n hx hb dX10_last_58 rfl (lv_at hl 2 rfl) ?_
        exact wretI_R C hw h dX10_last_59
      · replace h := (if_neg c2).symm.trans h
        refine lv_aload_n hx hb dX10_last_35 rfl (lv_at hl 0 rfl) ?_
        refine wgetR (t := 13) C hw flX10_49 (rfl : _ = some (0, 10)) rfl dX10_last_36 ?_
        refine wgetR (t := 14) C hw flX10_106 (rfl : _ = some (0, 1)) rfl dX10_last_39 ?_
        refine lv_iload_n hx hb dX10_last_42 rfl (lv_at hl 1 rfl) ?_
        refine lv_iload_n hx hb dX10_last_43 rfl (lv_at hl 3 rfl) ?_
        obtain ⟨r3, e4, h⟩ := bnd_some h
        refine wcallV1 (As := [.int p1, .int v3_21]) (rest := []) C hw (c_X5_piecesAt hW (rfl : _ = some (0, 5)) e4) vlX10_161 ⟨Nat.le_of_ble_eq_true rfl, Nat.le_of_ble_eq_true rfl⟩ (rfl : _ = some (0, 5)) rfl rfl rfl hl.1 (Nat.le_of_ble_eq_true rfl) dX10_last_44 ⟨Nat.zero_le _, Nat.zero_le _⟩ (fun H locs hw => ?_)
        refine lv_if_eq (tgt := 52) hx hb dX10_last_47 (by decide) (fun c5 => ?_) (fun c5 => ?_)
        · replace h := (if_pos c5).symm.trans h
          refine lv_iinc (v := (v3_21 + 1)) (lv' := [(3, .int (v3_21 + 1)), (0, .ref (P.2.2.1 0)), (1, .int p1), (2, .int v2_21)]) (k := 3) hx hb dX10_last_52 hl rfl (congrArg (fun z => v3_21 + z) (by decide)) (by decide) rfl (fun ls hl => ?_)
          refine lv_goto (tgt := 21) hx hb dX10_last_55 (by decide) ?_
          exact ih_21 v2_21 (v3_21 + 1) ls _ _ (lv_sub hl [1, 2, 3, 0] rfl) hw h
        · replace h := (if_neg c5).symm.trans h
          refine lv_iload_n hx hb dX10_last_50 rfl (lv_at hl 3 rfl) ?_
          refine lv_istore_n (lv' := [(2, .int v3_21), (0, .ref (P.2.2.1 0)), (1, .int p1), (3, .int v3_21)]) hx hb dX10_last_51 rfl hl (by decide) rfl (fun ls hl => ?_)
          refine lv_iinc (v := (v3_21 + 1)) (lv' := [(3, .int (v3_21 + 1)), (2, .int v3_21), (0, .ref (P.2.2.1 0)), (1, .int p1)]) (k := 3) hx hb dX10_last_52 hl rfl (congrArg (fun z => v3_21 + z) (by decide)) (by decide) rfl (fun ls hl => ?_)
          refine lv_goto (tgt := 21) hx hb dX10_last_55 (by decide) ?_
          exact ih_21 v3_21 (v3_21 + 1) ls _ _ (lv_sub hl [2, 3, 1, 0] rfl) hw h
  refine lv_aload_n hx hb dX10_last_0 rfl (lv_at hl 0 rfl) ?_
  refine wgetR (t := 13) C hw flX10_49 (rfl : _ = some (0, 10)) rfl dX10_last_1 ?_
  refine wgetR (t := 14) C hw flX10_106 (rfl : _ = some (0, 1)) rfl dX10_last_4 ?_
  refine lv_iload_n hx hb dX10_last_7 rfl (lv_at hl 1 rfl) ?_
  refine wcallV1 (As := [.int p1]) (rest := []) C hw (c_X5_hasZone hW (rfl : _ = some (0, 5)) rfl) vlX10_125 ⟨Nat.le_of_ble_eq_true rfl, Nat.le_of_ble_eq_true rfl⟩ (rfl : _ = some (0, 5)) rfl rfl rfl hl.1 (Nat.le_of_ble_eq_true rfl) dX10_last_8 ⟨Nat.zero_le _, Nat.zero_le _⟩ (fun H locs hw => ?_)
  refine lv_if_ne (tgt := 17) hx hb dX10_last_11 (by decide) (fun c1 => ?_) (fun c1 => ?_)
  · replace h := (if_neg c1).symm.trans h
    refine lv_iconst (v := (-1)) hx hb dX10_last_17 (by decide) ?_
    refine lv_istore_n (lv' := [(2, .int (-1)), (0, .ref (P.2.2.1 0)), (1, .int p1)]) hx hb dX10_last_18 rfl hl (by decide) rfl (fun ls hl => ?_)
    refine lv_iconst (v := 0) hx hb dX10_last_19 (by decide) ?_
    refine lv_istore_n (lv' := [(3, .int 0), (2, .int (-1)), (0, .ref (P.2.2.1 0)), (1, .int p1)]) hx hb dX10_last_20 rfl hl (by decide) rfl (fun ls hl => ?_)
    exact cut_21 FU (-1) 0 ls _ _ (lv_sub hl [2, 3, 1, 0] rfl) hw h
  · replace h := (if_pos c1).symm.trans h
    refine lv_bipush (v := (-2)) hx hb dX10_last_14 (by decide) ?_
    exact wretI_R C hw h dX10_last_16
set_option maxRecDepth 100000 in
set_option maxHeartbeats 4000000 in
theorem c_X10_busy {l : Launch} {P : Wp} {E : State → Heap → Prop} (hW : Wok shC P E) {p1 : Int32} {M : Mem} {r : Int32} (h : f_X10_busy p1 M = some r) : CT l shC P E yX10_busy bX10_busy 2 ((some .int)) 3 70 [.ref (P.2.2.1 0), .int p1] (some (.int r)) M M := by
  refine ct_of hW (by decide) (Nat.le_of_ble_eq_true rfl) (fun p e s m args below meth c C ls hl hw => ?_)
  have hx := C.1
  have hb := C.2.1
  replace hl : lv_has ls 2 [(0, .ref (P.2.2.1 0)), (1, .int p1)] := hl
  refine lv_aload_n hx hb dX10_busy_0 rfl (lv_at hl 0 rfl) ?_
  refine wgetR (t := 13) C hw flX10_49 (rfl : _ = some (0, 10)) rfl dX10_busy_1 ?_
  refine wgetR (t := 14) C hw flX10_106 (rfl : _ = some (0, 1)) rfl dX10_busy_4 ?_
  refine lv_iload_n hx hb dX10_busy_7 rfl (lv_at hl 1 rfl) ?_
  refine wcallV1 (As := [.int p1]) (rest := []) C hw (c_X5_hasZone hW (rfl : _ = some (0, 5)) rfl) vlX10_125 ⟨Nat.le_of_ble_eq_true rfl, Nat.le_of_ble_eq_true rfl⟩ (rfl : _ = some (0, 5)) rfl rfl rfl hl.1 (Nat.le_of_ble_eq_true rfl) dX10_busy_8 ⟨Nat.zero_le _, Nat.zero_le _⟩ (fun H locs hw => ?_)
  refine lv_if_eq (tgt := 28) hx hb dX10_busy_11 (by decide) (fun c1 => ?_) (fun c1 => ?_)
  · replace h := (if_pos c1).symm.trans h
    refine lv_bipush (v := (-2)) hx hb dX10_busy_28 (by decide) ?_
    exact wretI_R C hw h dX10_busy_30
  · replace h := (if_neg c1).symm.trans h
    refine lv_aload_n hx hb dX10_busy_14 rfl (lv_at hl 0 rfl) ?_
    refine wgetR (t := 13) C hw flX10_49 (rfl : _ = some (0, 10)) rfl dX10_busy_15 ?_
    refine wgetR (t := 14) C hw flX10_106 (rfl : _ = some (0, 1)) rfl dX10_busy_18 ?_
    refine lv_iload_n hx hb dX10_busy_21 rfl (lv_at hl 1 rfl) ?_
    obtain ⟨r2, e3, h⟩ := bnd_some h
    refine wcallV1 (As := [.int p1]) (rest := []) C hw (c_X5_busySteps hW (rfl : _ = some (0, 5)) e3) vlX10_284 ⟨Nat.le_of_ble_eq_true rfl, Nat.le_of_ble_eq_true rfl⟩ (rfl : _ = some (0, 5)) rfl rfl rfl hl.1 (Nat.le_of_ble_eq_true rfl) dX10_busy_22 ⟨Nat.zero_le _, Nat.zero_le _⟩ (fun H locs hw => ?_)
    refine lv_goto (tgt := 30) hx hb dX10_busy_25 (by decide) ?_
    exact wretI_R C hw h dX10_busy_30
set_option maxRecDepth 100000 in
set_option maxHeartbeats 4000000 in
theorem c_X10_idle {l : Launch} {P : Wp} {E : State → Heap → Prop} (hW : Wok shC P E) {M : Mem} {r : Int32} (h : f_X10_idle M = some r) : CT l shC P E yX10_idle bX10_idle 3 ((some .int)) 3 70 [.ref (P.2.2.1 0)] (some (.int r)) M M := by
  refine ct_of hW (by decide) (Nat.le_of_ble_eq_true rfl) (fun p e s m args below meth c C ls hl hw => ?_)
  have hx := C.1
  have hb := C.2.1
  replace hl : lv_has ls 3 [(0, .ref (P.2.2.1 0))] := hl
  have cut_20 : ∀ (n_20 : Nat) (v1_20 : Int32) (v2_20 : Int32) (ls : Array Slot) (H : Heap) (locs : List Loc), lv_has ls 3 [(0, .ref (P.2.2.1 0)), (1, .int v1_20), (2, .int v2_20)] → Hw shC P M s H locs → lq2 (L_X10_idle_20 M) n_20 v1_20 v2_20 = some r → W p l e { frames := 3, cells := 0, slots := 0, locals := 70 } s m args below meth c H locs 0 0 (MQ below (CQ shC P E (some (.int r)) M) args s 0 0 (wA shC P)) (F0 m 20 ls []) := by
    intro n_20
    induction n_20 with
    | zero => intro v1_20 v2_20 ls H locs hl hw h; cases h
    | succ n_20 ih_20 =>
      intro v1_20 v2_20 ls H locs hl hw h
      replace h := lq2_succ h
      refine lv_iload_n hx hb dX10_idle_20 rfl (lv_at hl 2 rfl) ?_
      refine lv_aload_n hx hb dX10_idle_21 rfl (lv_at hl 0 rfl) ?_
      refine wgetR (t := 13) C hw flX10_49 (rfl : _ = some (0, 10)) rfl dX10_idle_22 ?_
      refine wgetR (t := 14) C hw flX10_106 (rfl : _ = some (0, 1)) rfl dX10_idle_25 ?_
      refine wgetI C hw flX10_237 (rfl : _ = some (0, 5)) dX10_idle_28 ?_
      refine lv_icmp_ge (tgt := 60) hx hb dX10_idle_31 (by decide) (fun c2 => ?_) (fun c2 => ?_)
      · replace h := (if_pos c2).symm.trans h
        refine lv_iload_n hx hb dX10_idle_60 rfl (lv_at hl 1 rfl) ?_
        exact wretI_R C hw h dX10_idle_61
      · replace h := (if_neg c2).symm.trans h
        refine lv_aload_n hx hb dX10_idle_34 rfl (lv_at hl 0 rfl) ?_
        refine wgetR (t := 13) C hw flX10_49 (rfl : _ = some (0, 10)) rfl dX10_idle_35 ?_
        refine wgetR (t := 14) C hw flX10_106 (rfl : _ = some (0, 1)) rfl dX10_idle_38 ?_
        refine lv_iload_n hx hb dX10_idle_41 rfl (lv_at hl 2 rfl) ?_
        obtain ⟨r3, e4, h⟩ := bnd_some h
        refine wcallV1 (As := [.int v2_20]) (rest := []) C hw (c_X5_busySteps hW (rfl : _ = some (0, 5)) e4) vlX10_284 ⟨Nat.le_of_ble_eq_true rfl, Nat.le_of_ble_eq_true rfl⟩ (rfl : _ = some (0, 5)) rfl rfl rfl hl.1 (Nat.le_of_ble_eq_true rfl) dX10_idle_42 ⟨Nat.zero_le _, Nat.zero_le _⟩ (fun H locs hw => ?_)
        refine lv_if_ne (tgt := 54) hx hb dX10_idle_45 (by decide) (fun c5 => ?_) (fun c5 => ?_)
        · replace h := (if_neg c5).symm.trans h
          refine lv_iinc (v := (v2_20 + 1)) (lv' := [(2, .int (v2_20 + 1)), (0, .ref (P.2.2.1 0)), (1, .int v1_20)]) (k := 2) hx hb dX10_idle_54 hl rfl (congrArg (fun z => v2_20 + z) (by decide)) (by decide) rfl (fun ls hl => ?_)
          refine lv_goto (tgt := 20) hx hb dX10_idle_57 (by decide) ?_
          exact ih_20 v1_20 (v2_20 + 1) ls _ _ (lv_sub hl [1, 2, 0] rfl) hw h
        · replace h := (if_pos c5).symm.trans h
          refine lv_iload_n hx hb dX10_idle_48 rfl (lv_at hl 1 rfl) ?_
          refine lv_iconst (v := 1) hx hb dX10_idle_49 (by decide) ?_
          refine lv_iload_n hx hb dX10_idle_50 rfl (lv_at hl 2 rfl) ?_
          refine lv_ishl hx hb dX10_idle_51 ?_
          refine lv_ior hx hb dX10_idle_52 ?_
          refine lv_topi (fun x6 ex6 => ?_)
          replace h := letv_at ex6 h
          refine lv_istore_n (lv' := [(1, .int x6), (0, .ref (P.2.2.1 0)), (2, .int v2_20)]) hx hb dX10_idle_53 rfl hl (by decide) rfl (fun ls hl => ?_)
          refine lv_iinc (v := (v2_20 + 1)) (lv' := [(2, .int (v2_20 + 1)), (1, .int x6), (0, .ref (P.2.2.1 0))]) (k := 2) hx hb dX10_idle_54 hl rfl (congrArg (fun z => v2_20 + z) (by decide)) (by decide) rfl (fun ls hl => ?_)
          refine lv_goto (tgt := 20) hx hb dX10_idle_57 (by decide) ?_
          exact ih_20 x6 (v2_20 + 1) ls _ _ (lv_sub hl [2, 1, 0] rfl) hw h
  refine lv_aload_n hx hb dX10_idle_0 rfl (lv_at hl 0 rfl) ?_
  refine wgetR (t := 13) C hw flX10_49 (rfl : _ = some (0, 10)) rfl dX10_idle_1 ?_
  refine wgetR (t := 14) C hw flX10_106 (rfl : _ = some (0, 1)) rfl dX10_idle_4 ?_
  refine wcallV1 (As := []) (rest := []) C hw (c_X5_isTold hW (rfl : _ = some (0, 5)) rfl) vlX10_202 ⟨Nat.le_of_ble_eq_true rfl, Nat.le_of_ble_eq_true rfl⟩ (rfl : _ = some (0, 5)) rfl rfl rfl hl.1 (Nat.le_of_ble_eq_true rfl) dX10_idle_7 ⟨Nat.zero_le _, Nat.zero_le _⟩ (fun H locs hw => ?_)
  refine lv_if_ne (tgt := 16) hx hb dX10_idle_10 (by decide) (fun c1 => ?_) (fun c1 => ?_)
  · replace h := (if_neg c1).symm.trans h
    refine lv_iconst (v := 0) hx hb dX10_idle_16 (by decide) ?_
    refine lv_istore_n (lv' := [(1, .int 0), (0, .ref (P.2.2.1 0))]) hx hb dX10_idle_17 rfl hl (by decide) rfl (fun ls hl => ?_)
    refine lv_iconst (v := 0) hx hb dX10_idle_18 (by decide) ?_
    refine lv_istore_n (lv' := [(2, .int 0), (1, .int 0), (0, .ref (P.2.2.1 0))]) hx hb dX10_idle_19 rfl hl (by decide) rfl (fun ls hl => ?_)
    exact cut_20 FU 0 0 ls _ _ (lv_sub hl [2, 1, 0] rfl) hw h
  · replace h := (if_pos c1).symm.trans h
    refine lv_bipush (v := (-2)) hx hb dX10_idle_13 (by decide) ?_
    exact wretI_R C hw h dX10_idle_15
set_option maxRecDepth 100000 in
set_option maxHeartbeats 4000000 in
theorem c_X10_stiff {l : Launch} {P : Wp} {E : State → Heap → Prop} (hW : Wok shC P E) {p1 : Int32} {M : Mem} {r : Int32} {M' : Mem} (h : f_X10_stiff p1 M = some (r, M')) : CT l shC P E yX10_stiff bX10_stiff 2 ((some .int)) 5 138 [.ref (P.2.2.1 0), .int p1] (some (.int r)) M M' := by
  refine ct_of hW (by decide) (Nat.le_of_ble_eq_true rfl) (fun p e s m args below meth c C ls hl hw => ?_)
  have hx := C.1
  have hb := C.2.1
  replace hl : lv_has ls 2 [(0, .ref (P.2.2.1 0)), (1, .int p1)] := hl
  refine lv_aload_n hx hb dX10_stiff_0 rfl (lv_at hl 0 rfl) ?_
  refine wgetR (t := 13) C hw flX10_49 (rfl : _ = some (0, 10)) rfl dX10_stiff_1 ?_
  refine wgetR (t := 14) C hw flX10_106 (rfl : _ = some (0, 1)) rfl dX10_stiff_4 ?_
  refine lv_iload_n hx hb dX10_stiff_7 rfl (lv_at hl 1 rfl) ?_
  refine wcallV1 (As := [.int p1]) (rest := []) C hw (c_X5_hasStep hW (rfl : _ = some (0, 5)) rfl) vlX10_147 ⟨Nat.le_of_ble_eq_true rfl, Nat.le_of_ble_eq_true rfl⟩ (rfl : _ = some (0, 5)) rfl rfl rfl hl.1 (Nat.le_of_ble_eq_true rfl) dX10_stiff_8 ⟨Nat.zero_le _, Nat.zero_le _⟩ (fun H locs hw => ?_)
  refine lv_if_eq (tgt := 25) hx hb dX10_stiff_11 (by decide) (fun c1 => ?_) (fun c1 => ?_)
  · replace h := (if_pos c1).symm.trans h
    refine lv_bipush (v := (-2)) hx hb dX10_stiff_25 (by decide) ?_
    exact wretI_W C hw h dX10_stiff_27
  · replace h := (if_neg c1).symm.trans h
    refine lv_aload_n hx hb dX10_stiff_14 rfl (lv_at hl 0 rfl) ?_
    obtain ⟨M4, e3, h⟩ := bnd_some h
    refine wcallV1 (As := []) (rest := []) C hw (c_X10_followedCourse hW  e3) vlX10_171 ⟨Nat.le_of_ble_eq_true rfl, Nat.le_of_ble_eq_true rfl⟩ (rfl : _ = some (0, 10)) rfl rfl rfl hl.1 (Nat.le_of_ble_eq_true rfl) dX10_stiff_15 ⟨Nat.zero_le _, Nat.zero_le _⟩ (fun H locs hw => ?_)
    refine lv_iload_n hx hb dX10_stiff_18 rfl (lv_at hl 1 rfl) ?_
    obtain ⟨r5, e6, h⟩ := bnd_some h
    refine wcallV1 (As := [.int p1]) (rest := []) C hw (c_X2_stiffAt hW (rfl : _ = some (0, 2)) e6) vlX10_287 ⟨Nat.le_of_ble_eq_true rfl, Nat.le_of_ble_eq_true rfl⟩ (rfl : _ = some (0, 2)) rfl rfl rfl hl.1 (Nat.le_of_ble_eq_true rfl) dX10_stiff_19 ⟨Nat.zero_le _, Nat.zero_le _⟩ (fun H locs hw => ?_)
    refine lv_goto (tgt := 27) hx hb dX10_stiff_22 (by decide) ?_
    exact wretI_W C hw h dX10_stiff_27
set_option maxRecDepth 100000 in
set_option maxHeartbeats 4000000 in
theorem c_X10_spare {l : Launch} {P : Wp} {E : State → Heap → Prop} (hW : Wok shC P E) {p1 : Int32} {M : Mem} {r : Int32} {M' : Mem} (h : f_X10_spare p1 M = some (r, M')) : CT l shC P E yX10_spare bX10_spare 3 ((some .int)) 6 152 [.ref (P.2.2.1 0), .int p1] (some (.int r)) M M' := by
  refine ct_of hW (by decide) (Nat.le_of_ble_eq_true rfl) (fun p e s m args below meth c C ls hl hw => ?_)
  have hx := C.1
  have hb := C.2.1
  replace hl : lv_has ls 3 [(0, .ref (P.2.2.1 0)), (1, .int p1)] := hl
  refine lv_aload_n hx hb dX10_spare_0 rfl (lv_at hl 0 rfl) ?_
  refine wgetR (t := 13) C hw flX10_49 (rfl : _ = some (0, 10)) rfl dX10_spare_1 ?_
  refine wgetR (t := 14) C hw flX10_106 (rfl : _ = some (0, 1)) rfl dX10_spare_4 ?_
  refine lv_iload_n hx hb dX10_spare_7 rfl (lv_at hl 1 rfl) ?_
  refine wcallV1 (As := [.int p1]) (rest := []) C hw (c_X5_hasPiece hW (rfl : _ = some (0, 5)) rfl) vlX10_132 ⟨Nat.le_of_ble_eq_true rfl, Nat.le_of_ble_eq_true rfl⟩ (rfl : _ = some (0, 5)) rfl rfl rfl hl.1 (Nat.le_of_ble_eq_true rfl) dX10_spare_8 ⟨Nat.zero_le _, Nat.zero_le _⟩ (fun H locs hw => ?_)
  refine lv_if_ne (tgt := 17) hx hb dX10_spare_11 (by decide) (fun c1 => ?_) (fun c1 => ?_)
  · replace h := (if_neg c1).symm.trans h
    refine lv_aload_n hx hb dX10_spare_17 rfl (lv_at hl 0 rfl) ?_
    refine wgetR (t := 13) C hw flX10_49 (rfl : _ = some (0, 10)) rfl dX10_spare_18 ?_
    refine wgetR (t := 14) C hw flX10_106 (rfl : _ = some (0, 1)) rfl dX10_spare_21 ?_
    refine wgetR (t := 18) C hw flX10_141 (rfl : _ = some (0, 5)) rfl dX10_spare_24 ?_
    refine lv_iload_n hx hb dX10_spare_27 rfl (lv_at hl 1 rfl) ?_
    obtain ⟨g2, h⟩ := grd h
    refine wald C hw (rfl : _ = some (1, 6)) g2 dX10_spare_28 ?_
    refine lv_aload_n hx hb dX10_spare_29 rfl (lv_at hl 0 rfl) ?_
    refine wgetR (t := 33) C hw flX10_65 (rfl : _ = some (0, 10)) rfl dX10_spare_30 ?_
    refine lv_iload_n hx hb dX10_spare_33 rfl (lv_at hl 1 rfl) ?_
    obtain ⟨r3, M5, e4, h⟩ := bnd2_some h
    refine wcallV1 (As := [.int p1]) (rest := [.int (M.1 18 (ix p1))]) C hw (c_X9_strengthFor hW  e4) vlX10_290 ⟨Nat.le_of_ble_eq_true rfl, Nat.le_of_ble_eq_true rfl⟩ (rfl : _ = some (0, 9)) rfl rfl rfl hl.1 (Nat.le_of_ble_eq_true rfl) dX10_spare_34 ⟨Nat.zero_le _, Nat.zero_le _⟩ (fun H locs hw => ?_)
    refine lv_isub hx hb dX10_spare_37 ?_
    refine lv_topi (fun x6 ex6 => ?_)
    replace h := letv_at ex6 h
    refine lv_istore_n (lv' := [(2, .int x6), (0, .ref (P.2.2.1 0)), (1, .int p1)]) hx hb dX10_spare_38 rfl hl (by decide) rfl (fun ls hl => ?_)
    refine lv_iload_n hx hb dX10_spare_39 rfl (lv_at hl 0 rfl) ?_
    refine lv_if_ge (tgt := 47) hx hb dX10_spare_40 (by decide) (fun c7 => ?_) (fun c7 => ?_)
    · replace h := (if_pos c7).symm.trans h
      refine lv_iload_n hx hb dX10_spare_47 rfl (lv_at hl 0 rfl) ?_
      exact wretI_W C hw h dX10_spare_48
    · replace h := (if_neg c7).symm.trans h
      refine lv_iconst (v := (-1)) hx hb dX10_spare_43 (by decide) ?_
      refine lv_goto (tgt := 48) hx hb dX10_spare_44 (by decide) ?_
      exact wretI_W C hw h dX10_spare_48
  · replace h := (if_pos c1).symm.trans h
    refine lv_bipush (v := (-2)) hx hb dX10_spare_14 (by decide) ?_
    exact wretI_W C hw h dX10_spare_16
set_option maxRecDepth 100000 in
set_option maxHeartbeats 4000000 in
theorem c_X10_needs {l : Launch} {P : Wp} {E : State → Heap → Prop} (hW : Wok shC P E) {p1 : Int32} {M : Mem} {r : Int32} {M' : Mem} (h : f_X10_needs p1 M = some (r, M')) : CT l shC P E yX10_needs bX10_needs 3 ((some .int)) 6 152 [.ref (P.2.2.1 0), .int p1] (some (.int r)) M M' := by
  refine ct_of hW (by decide) (Nat.le_of_ble_eq_true rfl) (fun p e s m args below meth c C ls hl hw => ?_)
  have hx := C.1
  have hb := C.2.1
  replace hl : lv_has ls 3 [(0, .ref (P.2.2.1 0)), (1, .int p1)] := hl
  refine lv_aload_n hx hb dX10_needs_0 rfl (lv_at hl 0 rfl) ?_
  refine wgetR (t := 13) C hw flX10_49 (rfl : _ = some (0, 10)) rfl dX10_needs_1 ?_
  refine wgetR (t := 14) C hw flX10_106 (rfl : _ = some (0, 1)) rfl dX10_needs_4 ?_
  refine lv_iload_n hx hb dX10_needs_7 rfl (lv_at hl 1 rfl) ?_
  refine wcallV1 (As := [.int p1]) (rest := []) C hw (c_X5_hasPiece hW (rfl : _ = some (0, 5)) rfl) vlX10_132 ⟨Nat.le_of_ble_eq_true rfl, Nat.le_of_ble_eq_true rfl⟩ (rfl : _ = some (0, 5)) rfl rfl rfl hl.1 (Nat.le_of_ble_eq_true rfl) dX10_needs_8 ⟨Nat.zero_le _, Nat.zero_le _⟩ (fun H locs hw => ?_)
  refine lv_if_ne (tgt := 17) hx hb dX10_needs_11 (by decide) (fun c1 => ?_) (fun c1 => ?_)
  · replace h := (if_neg c1).symm.trans h
    refine lv_aload_n hx hb dX10_needs_17 rfl (lv_at hl 0 rfl) ?_
    refine wgetR (t := 33) C hw flX10_65 (rfl : _ = some (0, 10)) rfl dX10_needs_18 ?_
    refine lv_iload_n hx hb dX10_needs_21 rfl (lv_at hl 1 rfl) ?_
    obtain ⟨r2, M4, e3, h⟩ := bnd2_some h
    refine wcallV1 (As := [.int p1]) (rest := []) C hw (c_X9_strengthFor hW  e3) vlX10_290 ⟨Nat.le_of_ble_eq_true rfl, Nat.le_of_ble_eq_true rfl⟩ (rfl : _ = some (0, 9)) rfl rfl rfl hl.1 (Nat.le_of_ble_eq_true rfl) dX10_needs_22 ⟨Nat.zero_le _, Nat.zero_le _⟩ (fun H locs hw => ?_)
    refine lv_istore_n (lv' := [(2, .int r2), (0, .ref (P.2.2.1 0)), (1, .int p1)]) hx hb dX10_needs_25 rfl hl (by decide) rfl (fun ls hl => ?_)
    refine lv_iload_n hx hb dX10_needs_26 rfl (lv_at hl 0 rfl) ?_
    refine lv_sipush (v := 300) hx hb dX10_needs_27 (by decide) ?_
    refine lv_icmp_le (tgt := 37) hx hb dX10_needs_30 (by decide) (fun c5 => ?_) (fun c5 => ?_)
    · replace h := (if_pos c5).symm.trans h
      refine lv_iload_n hx hb dX10_needs_37 rfl (lv_at hl 0 rfl) ?_
      exact wretI_W C hw h dX10_needs_38
    · replace h := (if_neg c5).symm.trans h
      refine lv_iconst (v := (-1)) hx hb dX10_needs_33 (by decide) ?_
      refine lv_goto (tgt := 38) hx hb dX10_needs_34 (by decide) ?_
      exact wretI_W C hw h dX10_needs_38
  · replace h := (if_pos c1).symm.trans h
    refine lv_bipush (v := (-2)) hx hb dX10_needs_14 (by decide) ?_
    exact wretI_W C hw h dX10_needs_16
