-- words of RxQueues' calls
theorem kJ_265 : Cond.constant RJ6 265 1431655765 ∈ zW := zW_at 751 (by decide +kernel) rfl
theorem kJ_266 : Cond.constant RJ6 266 858993459 ∈ zW := zW_at 752 (by decide +kernel) rfl
theorem kJ_267 : Cond.constant RJ6 267 252645135 ∈ zW := zW_at 753 (by decide +kernel) rfl
theorem s_J6_bitCount : zSt yJ6_bitCount_0f7a4 cJ6_bitCount_0f7a4 1 (some .int) 1 := ⟨zW_at 750 (by decide +kernel) rfl, zW_at 749 (by decide +kernel) rfl, zW_at 66 (by decide +kernel) rfl, by decide +kernel⟩
theorem fl7_300 : Cond.fieldLink RX7 300 "RxQueues" "paper" "LRxQueues$State;" ∈ zW := zW_at 274 (by decide +kernel) rfl
theorem fl7_10 : Cond.fieldLink RX7 10 "RxQueues" "now" "LRxQueues$State;" ∈ zW := zW_at 269 (by decide +kernel) rfl
theorem ml7_182 : Cond.methodLink RX7 182 yX7_copied ∈ zW := zW_at 636 (by decide +kernel) rfl
theorem fl7_23 : Cond.fieldLink RX7 23 "RxQueues" "images" "[LRxQueues$State;" ∈ zW := zW_at 271 (by decide +kernel) rfl
theorem k7_232 : Cond.constantLong RX7 232 (-1) ∈ zW := zW_at 719 (by decide +kernel) rfl
theorem fl7_154 : Cond.fieldLink RX7 154 "RxQueues$State" "segments" "LRxQueues$Segments;" ∈ zW := zW_at 223 (by decide +kernel) rfl
theorem fl7_158 : Cond.fieldLink RX7 158 "RxQueues$Segments" "totals" "[J" ∈ zW := zW_at 145 (by decide +kernel) rfl
theorem fl7_74 : Cond.fieldLink RX7 74 "RxQueues" "latestRefusal" "I" ∈ zW := zW_at 273 (by decide +kernel) rfl
theorem fl7_27 : Cond.fieldLink RX7 27 "RxQueues" "refused" "[I" ∈ zW := zW_at 272 (by decide +kernel) rfl
theorem fl7_64 : Cond.fieldLink RX7 64 "RxQueues$State" "flows" "LRxQueues$Flows;" ∈ zW := zW_at 217 (by decide +kernel) rfl
theorem fl7_77 : Cond.fieldLink RX7 77 "RxQueues$Flows" "number" "I" ∈ zW := zW_at 102 (by decide +kernel) rfl
theorem ml7_86 : Cond.methodLink RX7 86 yX7_isQueue ∈ zW := zW_at 387 (by decide +kernel) rfl
theorem s_X7_isQueue : zSt yX7_isQueue cX7_isQueue 1 (some .boolean) 1 := ⟨zW_at 389 (by decide +kernel) rfl, zW_at 388 (by decide +kernel) rfl, zW_at 55 (by decide +kernel) rfl, by decide +kernel⟩
theorem fl7_167 : Cond.fieldLink RX7 167 "RxQueues$State" "queues" "[LRxQueues$Queue;" ∈ zW := zW_at 221 (by decide +kernel) rfl
theorem fl7_171 : Cond.fieldLink RX7 171 "RxQueues$Queue" "number" "I" ∈ zW := zW_at 183 (by decide +kernel) rfl
theorem ml7_223 : Cond.methodLink RX7 223 yX3_at ∈ zW := zW_at 706 (by decide +kernel) rfl
theorem fl7_226 : Cond.fieldLink RX7 226 "RxQueues$Segments" "kept" "I" ∈ zW := zW_at 143 (by decide +kernel) rfl
theorem ml7_229 : Cond.methodLink RX7 229 yX4_lately ∈ zW := zW_at 711 (by decide +kernel) rfl
theorem v_X4_lately : zV yX4_lately cX4_lately 3 (some .int) 2 := ⟨zW_at 714 (by decide +kernel) rfl, zW_at 712 (by decide +kernel) rfl, zW_at 713 (by decide +kernel) rfl, zW_at 60 (by decide +kernel) rfl, by decide +kernel⟩
theorem fl7_46 : Cond.fieldLink RX7 46 "RxQueues$State" "key" "LRxQueues$Key;" ∈ zW := zW_at 215 (by decide +kernel) rfl
theorem ml7_234 : Cond.methodLink RX7 234 yX2_bitsFrom ∈ zW := zW_at 724 (by decide +kernel) rfl
theorem v_X2_bitsFrom : zV yX2_bitsFrom cX2_bitsFrom 2 (some .int) 1 := ⟨zW_at 727 (by decide +kernel) rfl, zW_at 725 (by decide +kernel) rfl, zW_at 726 (by decide +kernel) rfl, zW_at 57 (by decide +kernel) rfl, by decide +kernel⟩
theorem ml7_261 : Cond.methodLink RX7 261 yX7_commonDivisor ∈ zW := zW_at 780 (by decide +kernel) rfl
theorem s_X7_commonDivisor : zSt yX7_commonDivisor cX7_commonDivisor 11 (some .long) 2 := ⟨zW_at 782 (by decide +kernel) rfl, zW_at 781 (by decide +kernel) rfl, zW_at 55 (by decide +kernel) rfl, by decide +kernel⟩
theorem ml7_108 : Cond.methodLink RX7 108 yX0_get ∈ zW := zW_at 422 (by decide +kernel) rfl
theorem k7_141 : Cond.constant RX7 141 1000000000 ∈ zW := zW_at 480 (by decide +kernel) rfl
theorem ml7_68 : Cond.methodLink RX7 68 yX0_numberOf ∈ zW := zW_at 364 (by decide +kernel) rfl
theorem v_X0_numberOf : zV yX0_numberOf cX0_numberOf 7 (some .int) 5 := ⟨zW_at 367 (by decide +kernel) rfl, zW_at 365 (by decide +kernel) rfl, zW_at 366 (by decide +kernel) rfl, zW_at 58 (by decide +kernel) rfl, by decide +kernel⟩
theorem ml7_105 : Cond.methodLink RX7 105 yX7_isFlow ∈ zW := zW_at 418 (by decide +kernel) rfl
theorem v_X7_isFlow : zV yX7_isFlow cX7_isFlow 2 (some .boolean) 1 := ⟨zW_at 421 (by decide +kernel) rfl, zW_at 420 (by decide +kernel) rfl, zW_at 5 (by decide +kernel) rfl, zW_at 55 (by decide +kernel) rfl, by decide +kernel⟩
theorem ml7_202 : Cond.methodLink RX7 202 yX5_missingBytes ∈ zW := zW_at 668 (by decide +kernel) rfl
theorem v_X5_missingBytes : zV yX5_missingBytes cX5_missingBytes 5 (some .int) 1 := ⟨zW_at 671 (by decide +kernel) rfl, zW_at 669 (by decide +kernel) rfl, zW_at 670 (by decide +kernel) rfl, zW_at 56 (by decide +kernel) rfl, by decide +kernel⟩
theorem ml7_205 : Cond.methodLink RX7 205 yX5_widestHole ∈ zW := zW_at 672 (by decide +kernel) rfl
theorem v_X5_widestHole : zV yX5_widestHole cX5_widestHole 7 (some .int) 1 := ⟨zW_at 675 (by decide +kernel) rfl, zW_at 673 (by decide +kernel) rfl, zW_at 674 (by decide +kernel) rfl, zW_at 56 (by decide +kernel) rfl, by decide +kernel⟩
theorem ml7_241 : Cond.methodLink RX7 241 yX2_entriesInReach ∈ zW := zW_at 740 (by decide +kernel) rfl
theorem v_X2_entriesInReach : zV yX2_entriesInReach cX2_entriesInReach 3 (some .int) 0 := ⟨zW_at 743 (by decide +kernel) rfl, zW_at 741 (by decide +kernel) rfl, zW_at 742 (by decide +kernel) rfl, zW_at 57 (by decide +kernel) rfl, by decide +kernel⟩
theorem mj7_244 : Cond.methodLink RX7 244 yJ6_bitCount_0f7a4 ∈ zW := zW_at 748 (by decide +kernel) rfl
theorem fl7_119 : Cond.fieldLink RX7 119 "RxQueues$State" "time" "I" ∈ zW := zW_at 227 (by decide +kernel) rfl
theorem ml7_281 : Cond.methodLink RX7 281 yX0_ruleNumber ∈ zW := zW_at 816 (by decide +kernel) rfl
theorem fl7_56 : Cond.fieldLink RX7 56 "RxQueues$Key" "counting" "I" ∈ zW := zW_at 88 (by decide +kernel) rfl
theorem ml7_275 : Cond.methodLink RX7 275 yX5_packetsWaiting ∈ zW := zW_at 808 (by decide +kernel) rfl
theorem v_X5_packetsWaiting : zV yX5_packetsWaiting cX5_packetsWaiting 3 (some .int) 0 := ⟨zW_at 811 (by decide +kernel) rfl, zW_at 809 (by decide +kernel) rfl, zW_at 810 (by decide +kernel) rfl, zW_at 56 (by decide +kernel) rfl, by decide +kernel⟩
theorem ml7_290 : Cond.methodLink RX7 290 yX0_sum ∈ zW := zW_at 837 (by decide +kernel) rfl
theorem v_X0_sum : zV yX0_sum cX0_sum 4 (some .int) 1 := ⟨zW_at 840 (by decide +kernel) rfl, zW_at 838 (by decide +kernel) rfl, zW_at 839 (by decide +kernel) rfl, zW_at 58 (by decide +kernel) rfl, by decide +kernel⟩
theorem ml7_278 : Cond.methodLink RX7 278 yX5_callsInAll ∈ zW := zW_at 812 (by decide +kernel) rfl
theorem v_X5_callsInAll : zV yX5_callsInAll cX5_callsInAll 3 (some .int) 0 := ⟨zW_at 815 (by decide +kernel) rfl, zW_at 813 (by decide +kernel) rfl, zW_at 814 (by decide +kernel) rfl, zW_at 56 (by decide +kernel) rfl, by decide +kernel⟩
theorem fl7_19 : Cond.fieldLink RX7 19 "RxQueues" "history" "LRxQueues$History;" ∈ zW := zW_at 270 (by decide +kernel) rfl
theorem fl7_177 : Cond.fieldLink RX7 177 "RxQueues$History" "number" "I" ∈ zW := zW_at 256 (by decide +kernel) rfl
theorem fl7_293 : Cond.fieldLink RX7 293 "RxQueues$State" "followed" "I" ∈ zW := zW_at 229 (by decide +kernel) rfl
theorem fl7_135 : Cond.fieldLink RX7 135 "RxQueues$State" "terms" "[I" ∈ zW := zW_at 225 (by decide +kernel) rfl
theorem ml7_287 : Cond.methodLink RX7 287 yX7_refusals ∈ zW := zW_at 833 (by decide +kernel) rfl
theorem v_X7_refusals : zV yX7_refusals cX7_refusals 2 (some .int) 1 := ⟨zW_at 836 (by decide +kernel) rfl, zW_at 835 (by decide +kernel) rfl, zW_at 12 (by decide +kernel) rfl, zW_at 55 (by decide +kernel) rfl, by decide +kernel⟩
theorem fl7_31 : Cond.fieldLink RX7 31 "RxQueues" "ofEachFlow" "[I" ∈ zW := zW_at 275 (by decide +kernel) rfl
theorem ml7_303 : Cond.methodLink RX7 303 yX7_entryByRepeated ∈ zW := zW_at 773 (by decide +kernel) rfl
theorem s_X7_entryByRepeated : zSt yX7_entryByRepeated cX7_entryByRepeated 5 (some .int) 2 := ⟨zW_at 775 (by decide +kernel) rfl, zW_at 774 (by decide +kernel) rfl, zW_at 55 (by decide +kernel) rfl, by decide +kernel⟩
theorem ml7_60 : Cond.methodLink RX7 60 yX7_areFields ∈ zW := zW_at 361 (by decide +kernel) rfl
theorem s_X7_areFields : zSt yX7_areFields cX7_areFields 5 (some .boolean) 5 := ⟨zW_at 363 (by decide +kernel) rfl, zW_at 362 (by decide +kernel) rfl, zW_at 55 (by decide +kernel) rfl, by decide +kernel⟩
theorem ml7_190 : Cond.methodLink RX7 190 yX2_hashFields ∈ zW := zW_at 645 (by decide +kernel) rfl
theorem ml7_237 : Cond.methodLink RX7 237 yX2_hashesBothWaysAlike ∈ zW := zW_at 732 (by decide +kernel) rfl
theorem v_X2_hashesBothWaysAlike : zV yX2_hashesBothWaysAlike cX2_hashesBothWaysAlike 2 (some .boolean) 0 := ⟨zW_at 735 (by decide +kernel) rfl, zW_at 733 (by decide +kernel) rfl, zW_at 734 (by decide +kernel) rfl, zW_at 57 (by decide +kernel) rfl, by decide +kernel⟩
theorem ml7_258 : Cond.methodLink RX7 258 yX7_unlikeEntries ∈ zW := zW_at 769 (by decide +kernel) rfl
theorem v_X7_unlikeEntries : zV yX7_unlikeEntries cX7_unlikeEntries 4 (some .int) 1 := ⟨zW_at 772 (by decide +kernel) rfl, zW_at 771 (by decide +kernel) rfl, zW_at 10 (by decide +kernel) rfl, zW_at 55 (by decide +kernel) rfl, by decide +kernel⟩
theorem ml7_255 : Cond.methodLink RX7 255 yX5_foldedFields ∈ zW := zW_at 764 (by decide +kernel) rfl
theorem v_X5_foldedFields : zV yX5_foldedFields cX5_foldedFields 4 (some .int) 1 := ⟨zW_at 767 (by decide +kernel) rfl, zW_at 765 (by decide +kernel) rfl, zW_at 766 (by decide +kernel) rfl, zW_at 56 (by decide +kernel) rfl, by decide +kernel⟩
theorem ml7_178 : Cond.methodLink RX7 178 yX1_takeBack ∈ zW := zW_at 627 (by decide +kernel) rfl
theorem v_X1_takeBack : zV yX1_takeBack cX1_takeBack 3 (some .int) 1 := ⟨zW_at 630 (by decide +kernel) rfl, zW_at 628 (by decide +kernel) rfl, zW_at 629 (by decide +kernel) rfl, zW_at 62 (by decide +kernel) rfl, by decide +kernel⟩
theorem ml7_38 : Cond.methodLink RX7 38 yX7_refuse ∈ zW := zW_at 298 (by decide +kernel) rfl
theorem v_X7_refuse : zV yX7_refuse cX7_refuse 2 (some .int) 1 := ⟨zW_at 301 (by decide +kernel) rfl, zW_at 300 (by decide +kernel) rfl, zW_at 0 (by decide +kernel) rfl, zW_at 55 (by decide +kernel) rfl, by decide +kernel⟩
theorem ml7_193 : Cond.methodLink RX7 193 yX5_hashFlow ∈ zW := zW_at 650 (by decide +kernel) rfl
theorem ml7_83 : Cond.methodLink RX7 83 yX7_isEntry ∈ zW := zW_at 384 (by decide +kernel) rfl
theorem s_X7_isEntry : zSt yX7_isEntry cX7_isEntry 1 (some .boolean) 1 := ⟨zW_at 386 (by decide +kernel) rfl, zW_at 385 (by decide +kernel) rfl, zW_at 55 (by decide +kernel) rfl, by decide +kernel⟩
theorem ml7_249 : Cond.methodLink RX7 249 yX2_part ∈ zW := zW_at 758 (by decide +kernel) rfl
theorem fl7_89 : Cond.fieldLink RX7 89 "RxQueues$State" "table" "LRxQueues$Table;" ∈ zW := zW_at 219 (by decide +kernel) rfl
theorem ml7_265 : Cond.methodLink RX7 265 yX6_mostHits ∈ zW := zW_at 791 (by decide +kernel) rfl
theorem v_X6_mostHits : zV yX6_mostHits cX6_mostHits 3 (some .int) 0 := ⟨zW_at 794 (by decide +kernel) rfl, zW_at 792 (by decide +kernel) rfl, zW_at 793 (by decide +kernel) rfl, zW_at 59 (by decide +kernel) rfl, by decide +kernel⟩
theorem ml7_268 : Cond.methodLink RX7 268 yX6_leastHits ∈ zW := zW_at 796 (by decide +kernel) rfl
theorem v_X6_leastHits : zV yX6_leastHits cX6_leastHits 1 (some .int) 0 := ⟨zW_at 799 (by decide +kernel) rfl, zW_at 797 (by decide +kernel) rfl, zW_at 798 (by decide +kernel) rfl, zW_at 59 (by decide +kernel) rfl, by decide +kernel⟩
theorem ml7_271 : Cond.methodLink RX7 271 yX7_paperOfNow ∈ zW := zW_at 800 (by decide +kernel) rfl
theorem v_X7_paperOfNow : zV yX7_paperOfNow cX7_paperOfNow 1 (some (.object "RxQueues$State")) 0 := ⟨zW_at 803 (by decide +kernel) rfl, zW_at 802 (by decide +kernel) rfl, zW_at 11 (by decide +kernel) rfl, zW_at 55 (by decide +kernel) rfl, by decide +kernel⟩
theorem ml7_98 : Cond.methodLink RX7 98 yX6_deal ∈ zW := zW_at 394 (by decide +kernel) rfl
theorem v_X6_deal : zV yX6_deal cX6_deal 5 (some .int) 0 := ⟨zW_at 397 (by decide +kernel) rfl, zW_at 395 (by decide +kernel) rfl, zW_at 396 (by decide +kernel) rfl, zW_at 59 (by decide +kernel) rfl, by decide +kernel⟩
theorem ml7_174 : Cond.methodLink RX7 174 yX5_takeBatch ∈ zW := zW_at 622 (by decide +kernel) rfl
theorem fl7_129 : Cond.fieldLink RX7 129 "RxQueues" "LEAST_TERMS" "[I" ∈ zW := zW_at 469 (by decide +kernel) rfl
theorem fl7_132 : Cond.fieldLink RX7 132 "RxQueues" "MOST_TERMS" "[I" ∈ zW := zW_at 471 (by decide +kernel) rfl
theorem ml7_296 : Cond.methodLink RX7 296 yX1_keep ∈ zW := zW_at 306 (by decide +kernel) rfl
theorem v_X1_keep : zV yX1_keep cX1_keep 3 none 2 := ⟨zW_at 309 (by decide +kernel) rfl, zW_at 307 (by decide +kernel) rfl, zW_at 308 (by decide +kernel) rfl, zW_at 62 (by decide +kernel) rfl, by decide +kernel⟩
theorem ml7_42 : Cond.methodLink RX7 42 yX7_begin ∈ zW := zW_at 302 (by decide +kernel) rfl
theorem v_X7_begin : zV yX7_begin cX7_begin 2 none 1 := ⟨zW_at 305 (by decide +kernel) rfl, zW_at 304 (by decide +kernel) rfl, zW_at 1 (by decide +kernel) rfl, zW_at 55 (by decide +kernel) rfl, by decide +kernel⟩
theorem ml7_50 : Cond.methodLink RX7 50 yX2_put ∈ zW := zW_at 348 (by decide +kernel) rfl
theorem v_X2_put : zV yX2_put cX2_put 7 none 3 := ⟨zW_at 351 (by decide +kernel) rfl, zW_at 349 (by decide +kernel) rfl, zW_at 350 (by decide +kernel) rfl, zW_at 57 (by decide +kernel) rfl, by decide +kernel⟩
theorem ml7_80 : Cond.methodLink RX7 80 yX0_enter ∈ zW := zW_at 372 (by decide +kernel) rfl
theorem v_X0_enter : zV yX0_enter cX0_enter 7 (some .int) 5 := ⟨zW_at 375 (by decide +kernel) rfl, zW_at 373 (by decide +kernel) rfl, zW_at 374 (by decide +kernel) rfl, zW_at 58 (by decide +kernel) rfl, by decide +kernel⟩
theorem fl7_93 : Cond.fieldLink RX7 93 "RxQueues$Table" "queueOf" "[I" ∈ zW := zW_at 118 (by decide +kernel) rfl
theorem ml7_102 : Cond.methodLink RX7 102 yX6_clearHits ∈ zW := zW_at 410 (by decide +kernel) rfl
theorem v_X6_clearHits : zV yX6_clearHits cX6_clearHits 2 none 0 := ⟨zW_at 413 (by decide +kernel) rfl, zW_at 411 (by decide +kernel) rfl, zW_at 412 (by decide +kernel) rfl, zW_at 59 (by decide +kernel) rfl, by decide +kernel⟩
theorem ml7_112 : Cond.methodLink RX7 112 yX0_put ∈ zW := zW_at 423 (by decide +kernel) rfl
theorem ml7_113 : Cond.methodLink RX7 113 yX0_dropRulesTo ∈ zW := zW_at 428 (by decide +kernel) rfl
theorem v_X0_dropRulesTo : zV yX0_dropRulesTo cX0_dropRulesTo 3 none 1 := ⟨zW_at 431 (by decide +kernel) rfl, zW_at 429 (by decide +kernel) rfl, zW_at 430 (by decide +kernel) rfl, zW_at 58 (by decide +kernel) rfl, by decide +kernel⟩
theorem ml7_116 : Cond.methodLink RX7 116 yX6_emptyOut ∈ zW := zW_at 436 (by decide +kernel) rfl
theorem v_X6_emptyOut : zV yX6_emptyOut cX6_emptyOut 6 (some .int) 1 := ⟨zW_at 439 (by decide +kernel) rfl, zW_at 437 (by decide +kernel) rfl, zW_at 438 (by decide +kernel) rfl, zW_at 59 (by decide +kernel) rfl, by decide +kernel⟩
theorem ml7_122 : Cond.methodLink RX7 122 yX0_putRule ∈ zW := zW_at 448 (by decide +kernel) rfl
theorem ml7_126 : Cond.methodLink RX7 126 yX0_dropRule ∈ zW := zW_at 464 (by decide +kernel) rfl
theorem ml7_138 : Cond.methodLink RX7 138 yX7_isSize ∈ zW := zW_at 477 (by decide +kernel) rfl
theorem s_X7_isSize : zSt yX7_isSize cX7_isSize 1 (some .boolean) 1 := ⟨zW_at 479 (by decide +kernel) rfl, zW_at 478 (by decide +kernel) rfl, zW_at 55 (by decide +kernel) rfl, by decide +kernel⟩
theorem ml7_142 : Cond.methodLink RX7 142 yX5_arrive ∈ zW := zW_at 481 (by decide +kernel) rfl
theorem v_X5_arrive : zV yX5_arrive cX5_arrive 11 (some .int) 3 := ⟨zW_at 484 (by decide +kernel) rfl, zW_at 482 (by decide +kernel) rfl, zW_at 483 (by decide +kernel) rfl, zW_at 56 (by decide +kernel) rfl, by decide +kernel⟩
theorem ml7_146 : Cond.methodLink RX7 146 yX7_burstFits ∈ zW := zW_at 527 (by decide +kernel) rfl
theorem v_X7_burstFits : zV yX7_burstFits cX7_burstFits 8 (some .boolean) 3 := ⟨zW_at 530 (by decide +kernel) rfl, zW_at 529 (by decide +kernel) rfl, zW_at 8 (by decide +kernel) rfl, zW_at 55 (by decide +kernel) rfl, by decide +kernel⟩
theorem ml7_150 : Cond.methodLink RX7 150 yX0_add ∈ zW := zW_at 535 (by decide +kernel) rfl
theorem k7_153 : Cond.constant RX7 153 99999 ∈ zW := zW_at 540 (by decide +kernel) rfl
theorem ml7_164 : Cond.methodLink RX7 164 yX5_passTick ∈ zW := zW_at 541 (by decide +kernel) rfl
theorem v_X5_passTick : zV yX5_passTick cX5_passTick 3 none 0 := ⟨zW_at 544 (by decide +kernel) rfl, zW_at 542 (by decide +kernel) rfl, zW_at 543 (by decide +kernel) rfl, zW_at 56 (by decide +kernel) rfl, by decide +kernel⟩
theorem ml7_199 : Cond.methodLink RX7 199 yX5_wishOf ∈ zW := zW_at 656 (by decide +kernel) rfl
theorem ml7_196 : Cond.methodLink RX7 196 yX5_entryOf ∈ zW := zW_at 655 (by decide +kernel) rfl
theorem fl7_208 : Cond.fieldLink RX7 208 "RxQueues$Table" "hits" "[I" ∈ zW := zW_at 122 (by decide +kernel) rfl
theorem ml7_211 : Cond.methodLink RX7 211 yX5_flowsOfEntry ∈ zW := zW_at 681 (by decide +kernel) rfl
theorem v_X5_flowsOfEntry : zV yX5_flowsOfEntry cX5_flowsOfEntry 4 (some .int) 1 := ⟨zW_at 684 (by decide +kernel) rfl, zW_at 682 (by decide +kernel) rfl, zW_at 683 (by decide +kernel) rfl, zW_at 56 (by decide +kernel) rfl, by decide +kernel⟩
theorem fl7_284 : Cond.fieldLink RX7 284 "RxQueues$Queue" "calls" "I" ∈ zW := zW_at 186 (by decide +kernel) rfl
theorem ml7_214 : Cond.methodLink RX7 214 yX5_flowsWishing ∈ zW := zW_at 689 (by decide +kernel) rfl
theorem v_X5_flowsWishing : zV yX5_flowsWishing cX5_flowsWishing 4 (some .int) 1 := ⟨zW_at 692 (by decide +kernel) rfl, zW_at 690 (by decide +kernel) rfl, zW_at 691 (by decide +kernel) rfl, zW_at 56 (by decide +kernel) rfl, by decide +kernel⟩
theorem ml7_217 : Cond.methodLink RX7 217 yX6_entriesOf ∈ zW := zW_at 694 (by decide +kernel) rfl
theorem v_X6_entriesOf : zV yX6_entriesOf cX6_entriesOf 4 (some .int) 1 := ⟨zW_at 697 (by decide +kernel) rfl, zW_at 695 (by decide +kernel) rfl, zW_at 696 (by decide +kernel) rfl, zW_at 59 (by decide +kernel) rfl, by decide +kernel⟩
theorem ml7_220 : Cond.methodLink RX7 220 yX3_tell ∈ zW := zW_at 698 (by decide +kernel) rfl
theorem v_X3_tell : zV yX3_tell cX3_tell 2 (some .int) 1 := ⟨zW_at 701 (by decide +kernel) rfl, zW_at 699 (by decide +kernel) rfl, zW_at 700 (by decide +kernel) rfl, zW_at 61 (by decide +kernel) rfl, by decide +kernel⟩
section WC
variable {p : Program} {l : Launch} {e : Env} {s : State} {m : MethodId} {args : Array Value} {below : List Frame} {meth : Method} {c : Code} {g : zG} {A : Nat → Prop}
abbrev j_J6_bitCount (p : Program) (l : Launch) (e : Env) (s : State) (m : MethodId) (args : Array Value) (below : List Frame) (meth : Method) (c : Code) (g : zG) (A : Nat → Prop) (Q : Int32 → Prop) (pc : Nat) (lv : List (Nat × Value)) (st : List Value) : Prop := zJ p l e (zR 0 0 0) s m args below meth c g A 1 (zQi below args s g A 0 0 (fun _ : Unit => []) (fun r _ => Q r)) [] 0 0 pc lv st
def wp_J6_bitCount (x0 : Int32) (Q : Int32 → Prop) : Prop :=
  ∀ x101 : Int32, x101 = x0 - ((zu x0 1) &&& 1431655765) → ∀ x102 : Int32, x102 = (x101 &&& 858993459) + ((zu x101 2) &&& 858993459) → ∀ x103 : Int32, x103 = (x102 + (zu x102 4)) &&& 252645135 → ∀ x104 : Int32, x104 = x103 + (zu x103 8) → ∀ x105 : Int32, x105 = x104 + (zu x104 16) → Q (x105 &&& 63)
set_option maxRecDepth 20000 in
theorem c_J6_bitCount (l : Launch) (g : zG) (x0 : Int32) (Q : Int32 → Prop) (h : wp_J6_bitCount x0 Q) : zMi l yJ6_bitCount_0f7a4 cJ6_bitCount_0f7a4 1 (some .int) 0 0 0 g [.int x0] [] (fun _ : Unit => []) (fun r _ => Q r) := by
  refine zMi_of RJ6 (by decide) rfl [(0, .int x0)] rfl (Nat.le_of_ble_eq_true rfl) (fun p e s m args below meth c A C hr hnm => ?_)
  unfold wp_J6_bitCount at h
  refine z_iload_n C dJ6_bitCount_0f7a4_0 rfl 0 rfl ?_
  refine z_iload_n C dJ6_bitCount_0f7a4_1 rfl 0 rfl ?_
  refine z_iconst (v := 1) C dJ6_bitCount_0f7a4_2 (by decide) ?_
  refine z_iushr C dJ6_bitCount_0f7a4_3 ?_
  refine z_ldcw (v := 1431655765) C dJ6_bitCount_0f7a4_4 kJ_265 ?_
  refine z_iand C dJ6_bitCount_0f7a4_7 ?_
  refine z_isub C dJ6_bitCount_0f7a4_8 ?_
  refine z_topi (fun x101 ex101 => ?_)
  have h := h x101 ex101
  refine z_istore_n (lv1 := [(0, .int x101)]) C dJ6_bitCount_0f7a4_9 rfl (by decide) rfl ?_
  refine z_iload_n C dJ6_bitCount_0f7a4_10 rfl 0 rfl ?_
  refine z_ldcw (v := 858993459) C dJ6_bitCount_0f7a4_11 kJ_266 ?_
  refine z_iand C dJ6_bitCount_0f7a4_14 ?_
  refine z_iload_n C dJ6_bitCount_0f7a4_15 rfl 0 rfl ?_
  refine z_iconst (v := 2) C dJ6_bitCount_0f7a4_16 (by decide) ?_
  refine z_iushr C dJ6_bitCount_0f7a4_17 ?_
  refine z_ldcw (v := 858993459) C dJ6_bitCount_0f7a4_18 kJ_266 ?_
  refine z_iand C dJ6_bitCount_0f7a4_21 ?_
  refine z_iadd C dJ6_bitCount_0f7a4_22 ?_
  refine z_topi (fun x102 ex102 => ?_)
  have h := h x102 ex102
  refine z_istore_n (lv1 := [(0, .int x102)]) C dJ6_bitCount_0f7a4_23 rfl (by decide) rfl ?_
  refine z_iload_n C dJ6_bitCount_0f7a4_24 rfl 0 rfl ?_
  refine z_iload_n C dJ6_bitCount_0f7a4_25 rfl 0 rfl ?_
  refine z_iconst (v := 4) C dJ6_bitCount_0f7a4_26 (by decide) ?_
  refine z_iushr C dJ6_bitCount_0f7a4_27 ?_
  refine z_iadd C dJ6_bitCount_0f7a4_28 ?_
  refine z_ldcw (v := 252645135) C dJ6_bitCount_0f7a4_29 kJ_267 ?_
  refine z_iand C dJ6_bitCount_0f7a4_32 ?_
  refine z_topi (fun x103 ex103 => ?_)
  have h := h x103 ex103
  refine z_istore_n (lv1 := [(0, .int x103)]) C dJ6_bitCount_0f7a4_33 rfl (by decide) rfl ?_
  refine z_iload_n C dJ6_bitCount_0f7a4_34 rfl 0 rfl ?_
  refine z_iload_n C dJ6_bitCount_0f7a4_35 rfl 0 rfl ?_
  refine z_bipush (v := 8) C dJ6_bitCount_0f7a4_36 (by decide) ?_
  refine z_iushr C dJ6_bitCount_0f7a4_38 ?_
  refine z_iadd C dJ6_bitCount_0f7a4_39 ?_
  refine z_topi (fun x104 ex104 => ?_)
  have h := h x104 ex104
  refine z_istore_n (lv1 := [(0, .int x104)]) C dJ6_bitCount_0f7a4_40 rfl (by decide) rfl ?_
  refine z_iload_n C dJ6_bitCount_0f7a4_41 rfl 0 rfl ?_
  refine z_iload_n C dJ6_bitCount_0f7a4_42 rfl 0 rfl ?_
  refine z_bipush (v := 16) C dJ6_bitCount_0f7a4_43 (by decide) ?_
  refine z_iushr C dJ6_bitCount_0f7a4_45 ?_
  refine z_iadd C dJ6_bitCount_0f7a4_46 ?_
  refine z_topi (fun x105 ex105 => ?_)
  have h := h x105 ex105
  refine z_istore_n (lv1 := [(0, .int x105)]) C dJ6_bitCount_0f7a4_47 rfl (by decide) rfl ?_
  refine z_iload_n C dJ6_bitCount_0f7a4_48 rfl 0 rfl ?_
  refine z_bipush (v := 63) C dJ6_bitCount_0f7a4_49 (by decide) ?_
  refine z_iand C dJ6_bitCount_0f7a4_51 ?_
  exact z_iret C hr () rfl h dJ6_bitCount_0f7a4_52
end WC
