-- the law: its rows
abbrev AL (s : State) : Nat → Prop := fun q : Nat => s.heap.size ≤ q
abbrev zCL (p : Program) (s : State) (m : MethodId) (b : Nat) (meth : Method) (c : Code) (g : zG) : Prop := zC p s m #[Value.ref b] meth c g (AL s) cL_law RL 4
abbrev jL (p : Program) (l : Launch) (e : Env) (s : State) (m : MethodId) (below : List Frame) (meth : Method) (c : Code) (g : zG) (b : Nat) (ma ha ra : Nat → Nat) (bd : Nat → Nat → Nat) (u : TS) (r : RS) (x3 : Int32) (k n pc : Nat) (st : List Value) : Prop := zJ p l e room_1 s m #[Value.ref b] below meth c g (AL s) 4 (lw_Z below #[Value.ref b] s) (wT g ma ha bd u ++ wR g ra r) k n pc [(0, .ref b), (1, .ref (ma 0)), (2, .ref (ra 0)), (3, .int x3)] st
theorem zcmp_self (x : Int64) : lg_cmp x x = 0 := by
  unfold lg_cmp
  simp
section ZL
variable {p : Program} {l : Launch} {e : Env} {R : Room} {s : State} {m : MethodId} {args : Array Value} {below : List Frame} {meth : Method} {c : Code} {g : zG} {A : Nat → Prop} {nL : Nat} {Q : State → Prop} {ws : va_W} {k n pc : Nat} {lv : List (Nat × Value)} {st : List Value} {cc : ByteArray} {own : String} {b L : Nat} {xs : Nat → Int32}
theorem z_sld (C : zC p s m args meth c g A cc own nL) (hX : va_X b L xs s s.heap) (hbl : b < s.heap.size) (hbA : ¬ A b) {i : Int32} (hin : vp_in i L) (hd : decode cc pc = .ok (.iaload, 1)) (h : zJ p l e R s m args below meth c g A nL Q ws k n (pc + 1) lv (.int (xs (zn i)) :: st)) : zJ p l e R s m args below meth c g A nL Q ws k n pc lv (.int i :: .ref b :: st) :=
  fun H locs ls hP hD hS hl => va_sld C.1 C.2.1 hX hbl hbA hS hin hd (h H locs ls hP hD hS hl)
theorem z_slen (C : zC p s m args meth c g A cc own nL) (hX : va_X b L xs s s.heap) (hbl : b < s.heap.size) (hbA : ¬ A b) (hd : decode cc pc = .ok (.arraylength, 1)) (h : zJ p l e R s m args below meth c g A nL Q ws k n (pc + 1) lv (.int (Int32.ofNat L) :: st)) : zJ p l e R s m args below meth c g A nL Q ws k n pc lv (.ref b :: st) :=
  fun H locs ls hP hD hS hl => va_slen C.1 C.2.1 hX hbl hbA hS hd (h H locs ls hP hD hS hl)
end ZL
theorem v_X7_key : zV yX7_key cX7_key 4 (some .int) 3 := ⟨zW_at 294 (by decide +kernel) rfl, zW_at 292 (by decide +kernel) rfl, zW_at 293 (by decide +kernel) rfl, zW_at 55 (by decide +kernel) rfl, by decide +kernel⟩
theorem v_X8_key : zV yX8_key cX8_key 4 (some .int) 3 := ⟨zW_at 950 (by decide +kernel) rfl, zW_at 948 (by decide +kernel) rfl, zW_at 949 (by decide +kernel) rfl, zW_at 63 (by decide +kernel) rfl, by decide +kernel⟩
theorem mlL_13 : Cond.methodLink RL 13 yX7_key ∈ zW := zW_at 291 (by decide +kernel) rfl
theorem mlL_17 : Cond.methodLink RL 17 yX8_key ∈ zW := zW_at 947 (by decide +kernel) rfl
theorem v_X7_mask : zV yX7_mask cX7_mask 3 (some .int) 1 := ⟨zW_at 356 (by decide +kernel) rfl, zW_at 354 (by decide +kernel) rfl, zW_at 355 (by decide +kernel) rfl, zW_at 55 (by decide +kernel) rfl, by decide +kernel⟩
theorem v_X8_mask : zV yX8_mask cX8_mask 3 (some .int) 1 := ⟨zW_at 989 (by decide +kernel) rfl, zW_at 987 (by decide +kernel) rfl, zW_at 988 (by decide +kernel) rfl, zW_at 63 (by decide +kernel) rfl, by decide +kernel⟩
theorem mlL_18 : Cond.methodLink RL 18 yX7_mask ∈ zW := zW_at 353 (by decide +kernel) rfl
theorem mlL_22 : Cond.methodLink RL 22 yX8_mask ∈ zW := zW_at 986 (by decide +kernel) rfl
theorem v_X7_flow : zV yX7_flow cX7_flow 7 (some .int) 5 := ⟨zW_at 360 (by decide +kernel) rfl, zW_at 358 (by decide +kernel) rfl, zW_at 359 (by decide +kernel) rfl, zW_at 55 (by decide +kernel) rfl, by decide +kernel⟩
theorem v_X8_flow : zV yX8_flow cX8_flow 9 (some .int) 5 := ⟨zW_at 998 (by decide +kernel) rfl, zW_at 996 (by decide +kernel) rfl, zW_at 997 (by decide +kernel) rfl, zW_at 63 (by decide +kernel) rfl, by decide +kernel⟩
theorem mlL_23 : Cond.methodLink RL 23 yX7_flow ∈ zW := zW_at 357 (by decide +kernel) rfl
theorem mlL_27 : Cond.methodLink RL 27 yX8_flow ∈ zW := zW_at 995 (by decide +kernel) rfl
theorem v_X7_table : zV yX7_table cX7_table 4 (some .int) 2 := ⟨zW_at 383 (by decide +kernel) rfl, zW_at 381 (by decide +kernel) rfl, zW_at 382 (by decide +kernel) rfl, zW_at 55 (by decide +kernel) rfl, by decide +kernel⟩
theorem v_X8_table : zV yX8_table cX8_table 3 (some .int) 2 := ⟨zW_at 1010 (by decide +kernel) rfl, zW_at 1008 (by decide +kernel) rfl, zW_at 1009 (by decide +kernel) rfl, zW_at 63 (by decide +kernel) rfl, by decide +kernel⟩
theorem mlL_28 : Cond.methodLink RL 28 yX7_table ∈ zW := zW_at 380 (by decide +kernel) rfl
theorem mlL_32 : Cond.methodLink RL 32 yX8_table ∈ zW := zW_at 1007 (by decide +kernel) rfl
theorem v_X7_balance : zV yX7_balance cX7_balance 2 (some .int) 0 := ⟨zW_at 393 (by decide +kernel) rfl, zW_at 391 (by decide +kernel) rfl, zW_at 392 (by decide +kernel) rfl, zW_at 55 (by decide +kernel) rfl, by decide +kernel⟩
theorem v_X8_balance : zV yX8_balance cX8_balance 3 (some .int) 0 := ⟨zW_at 1019 (by decide +kernel) rfl, zW_at 1017 (by decide +kernel) rfl, zW_at 1018 (by decide +kernel) rfl, zW_at 63 (by decide +kernel) rfl, by decide +kernel⟩
theorem mlL_33 : Cond.methodLink RL 33 yX7_balance ∈ zW := zW_at 390 (by decide +kernel) rfl
theorem mlL_37 : Cond.methodLink RL 37 yX8_balance ∈ zW := zW_at 1016 (by decide +kernel) rfl
theorem v_X7_reads : zV yX7_reads cX7_reads 4 (some .int) 2 := ⟨zW_at 417 (by decide +kernel) rfl, zW_at 415 (by decide +kernel) rfl, zW_at 416 (by decide +kernel) rfl, zW_at 55 (by decide +kernel) rfl, by decide +kernel⟩
theorem v_X8_reads : zV yX8_reads cX8_reads 3 (some .int) 2 := ⟨zW_at 1035 (by decide +kernel) rfl, zW_at 1033 (by decide +kernel) rfl, zW_at 1034 (by decide +kernel) rfl, zW_at 63 (by decide +kernel) rfl, by decide +kernel⟩
theorem mlL_38 : Cond.methodLink RL 38 yX7_reads ∈ zW := zW_at 414 (by decide +kernel) rfl
theorem mlL_41 : Cond.methodLink RL 41 yX8_reads ∈ zW := zW_at 1032 (by decide +kernel) rfl
theorem v_X7_retire : zV yX7_retire cX7_retire 2 (some .int) 1 := ⟨zW_at 427 (by decide +kernel) rfl, zW_at 425 (by decide +kernel) rfl, zW_at 426 (by decide +kernel) rfl, zW_at 55 (by decide +kernel) rfl, by decide +kernel⟩
theorem v_X8_retire : zV yX8_retire cX8_retire 5 (some .int) 1 := ⟨zW_at 1044 (by decide +kernel) rfl, zW_at 1042 (by decide +kernel) rfl, zW_at 1043 (by decide +kernel) rfl, zW_at 63 (by decide +kernel) rfl, by decide +kernel⟩
theorem mlL_42 : Cond.methodLink RL 42 yX7_retire ∈ zW := zW_at 424 (by decide +kernel) rfl
theorem mlL_45 : Cond.methodLink RL 45 yX8_retire ∈ zW := zW_at 1041 (by decide +kernel) rfl
theorem v_X7_steer : zV yX7_steer cX7_steer 3 (some .int) 2 := ⟨zW_at 447 (by decide +kernel) rfl, zW_at 445 (by decide +kernel) rfl, zW_at 446 (by decide +kernel) rfl, zW_at 55 (by decide +kernel) rfl, by decide +kernel⟩
theorem v_X8_steer : zV yX8_steer cX8_steer 3 (some .int) 2 := ⟨zW_at 1055 (by decide +kernel) rfl, zW_at 1053 (by decide +kernel) rfl, zW_at 1054 (by decide +kernel) rfl, zW_at 63 (by decide +kernel) rfl, by decide +kernel⟩
theorem mlL_46 : Cond.methodLink RL 46 yX7_steer ∈ zW := zW_at 444 (by decide +kernel) rfl
theorem mlL_49 : Cond.methodLink RL 49 yX8_steer ∈ zW := zW_at 1052 (by decide +kernel) rfl
theorem v_X7_free : zV yX7_free cX7_free 3 (some .int) 1 := ⟨zW_at 463 (by decide +kernel) rfl, zW_at 461 (by decide +kernel) rfl, zW_at 462 (by decide +kernel) rfl, zW_at 55 (by decide +kernel) rfl, by decide +kernel⟩
theorem v_X8_free : zV yX8_free cX8_free 4 (some .int) 1 := ⟨zW_at 1067 (by decide +kernel) rfl, zW_at 1065 (by decide +kernel) rfl, zW_at 1066 (by decide +kernel) rfl, zW_at 63 (by decide +kernel) rfl, by decide +kernel⟩
theorem mlL_50 : Cond.methodLink RL 50 yX7_free ∈ zW := zW_at 460 (by decide +kernel) rfl
theorem mlL_53 : Cond.methodLink RL 53 yX8_free ∈ zW := zW_at 1064 (by decide +kernel) rfl
theorem v_X7_terms : zV yX7_terms cX7_terms 4 (some .int) 2 := ⟨zW_at 468 (by decide +kernel) rfl, zW_at 466 (by decide +kernel) rfl, zW_at 467 (by decide +kernel) rfl, zW_at 55 (by decide +kernel) rfl, by decide +kernel⟩
theorem v_X8_terms : zV yX8_terms cX8_terms 3 (some .int) 2 := ⟨zW_at 1071 (by decide +kernel) rfl, zW_at 1069 (by decide +kernel) rfl, zW_at 1070 (by decide +kernel) rfl, zW_at 63 (by decide +kernel) rfl, by decide +kernel⟩
theorem mlL_54 : Cond.methodLink RL 54 yX7_terms ∈ zW := zW_at 465 (by decide +kernel) rfl
theorem mlL_57 : Cond.methodLink RL 57 yX8_terms ∈ zW := zW_at 1068 (by decide +kernel) rfl
theorem v_X7_packet : zV yX7_packet cX7_packet 4 (some .int) 3 := ⟨zW_at 476 (by decide +kernel) rfl, zW_at 474 (by decide +kernel) rfl, zW_at 475 (by decide +kernel) rfl, zW_at 55 (by decide +kernel) rfl, by decide +kernel⟩
theorem v_X8_packet : zV yX8_packet cX8_packet 4 (some .int) 3 := ⟨zW_at 1084 (by decide +kernel) rfl, zW_at 1082 (by decide +kernel) rfl, zW_at 1083 (by decide +kernel) rfl, zW_at 63 (by decide +kernel) rfl, by decide +kernel⟩
theorem mlL_58 : Cond.methodLink RL 58 yX7_packet ∈ zW := zW_at 473 (by decide +kernel) rfl
theorem mlL_62 : Cond.methodLink RL 62 yX8_packet ∈ zW := zW_at 1081 (by decide +kernel) rfl
theorem v_X7_burst : zV yX7_burst cX7_burst 7 (some .int) 3 := ⟨zW_at 526 (by decide +kernel) rfl, zW_at 524 (by decide +kernel) rfl, zW_at 525 (by decide +kernel) rfl, zW_at 55 (by decide +kernel) rfl, by decide +kernel⟩
theorem v_X8_burst : zV yX8_burst cX8_burst 7 (some .int) 3 := ⟨zW_at 1113 (by decide +kernel) rfl, zW_at 1111 (by decide +kernel) rfl, zW_at 1112 (by decide +kernel) rfl, zW_at 63 (by decide +kernel) rfl, by decide +kernel⟩
theorem mlL_63 : Cond.methodLink RL 63 yX7_burst ∈ zW := zW_at 523 (by decide +kernel) rfl
theorem mlL_66 : Cond.methodLink RL 66 yX8_burst ∈ zW := zW_at 1110 (by decide +kernel) rfl
theorem v_X7_gap : zV yX7_gap cX7_gap 3 (some .int) 2 := ⟨zW_at 534 (by decide +kernel) rfl, zW_at 532 (by decide +kernel) rfl, zW_at 533 (by decide +kernel) rfl, zW_at 55 (by decide +kernel) rfl, by decide +kernel⟩
theorem v_X8_gap : zV yX8_gap cX8_gap 3 (some .int) 2 := ⟨zW_at 1118 (by decide +kernel) rfl, zW_at 1116 (by decide +kernel) rfl, zW_at 1117 (by decide +kernel) rfl, zW_at 63 (by decide +kernel) rfl, by decide +kernel⟩
theorem mlL_67 : Cond.methodLink RL 67 yX7_gap ∈ zW := zW_at 531 (by decide +kernel) rfl
theorem mlL_70 : Cond.methodLink RL 70 yX8_gap ∈ zW := zW_at 1115 (by decide +kernel) rfl
theorem v_X7_tick : zV yX7_tick cX7_tick 5 (some .int) 1 := ⟨zW_at 539 (by decide +kernel) rfl, zW_at 537 (by decide +kernel) rfl, zW_at 538 (by decide +kernel) rfl, zW_at 55 (by decide +kernel) rfl, by decide +kernel⟩
theorem v_X8_tick : zV yX8_tick cX8_tick 2 (some .int) 1 := ⟨zW_at 1122 (by decide +kernel) rfl, zW_at 1120 (by decide +kernel) rfl, zW_at 1121 (by decide +kernel) rfl, zW_at 63 (by decide +kernel) rfl, by decide +kernel⟩
theorem mlL_71 : Cond.methodLink RL 71 yX7_tick ∈ zW := zW_at 536 (by decide +kernel) rfl
theorem mlL_74 : Cond.methodLink RL 74 yX8_tick ∈ zW := zW_at 1119 (by decide +kernel) rfl
theorem v_X7_poll : zV yX7_poll cX7_poll 2 (some .int) 1 := ⟨zW_at 621 (by decide +kernel) rfl, zW_at 619 (by decide +kernel) rfl, zW_at 620 (by decide +kernel) rfl, zW_at 55 (by decide +kernel) rfl, by decide +kernel⟩
theorem v_X8_poll : zV yX8_poll cX8_poll 2 (some .int) 1 := ⟨zW_at 1159 (by decide +kernel) rfl, zW_at 1157 (by decide +kernel) rfl, zW_at 1158 (by decide +kernel) rfl, zW_at 63 (by decide +kernel) rfl, by decide +kernel⟩
theorem mlL_75 : Cond.methodLink RL 75 yX7_poll ∈ zW := zW_at 618 (by decide +kernel) rfl
theorem mlL_78 : Cond.methodLink RL 78 yX8_poll ∈ zW := zW_at 1156 (by decide +kernel) rfl
theorem v_X7_undo : zV yX7_undo cX7_undo 1 (some .int) 0 := ⟨zW_at 626 (by decide +kernel) rfl, zW_at 624 (by decide +kernel) rfl, zW_at 625 (by decide +kernel) rfl, zW_at 55 (by decide +kernel) rfl, by decide +kernel⟩
theorem v_X8_undo : zV yX8_undo cX8_undo 1 (some .int) 0 := ⟨zW_at 919 (by decide +kernel) rfl, zW_at 917 (by decide +kernel) rfl, zW_at 918 (by decide +kernel) rfl, zW_at 63 (by decide +kernel) rfl, by decide +kernel⟩
theorem mlL_79 : Cond.methodLink RL 79 yX7_undo ∈ zW := zW_at 623 (by decide +kernel) rfl
theorem mlL_82 : Cond.methodLink RL 82 yX8_undo ∈ zW := zW_at 916 (by decide +kernel) rfl
theorem v_X7_image : zV yX7_image cX7_image 2 (some .int) 1 := ⟨zW_at 635 (by decide +kernel) rfl, zW_at 633 (by decide +kernel) rfl, zW_at 634 (by decide +kernel) rfl, zW_at 55 (by decide +kernel) rfl, by decide +kernel⟩
theorem v_X8_image : zV yX8_image cX8_image 2 (some .int) 1 := ⟨zW_at 935 (by decide +kernel) rfl, zW_at 933 (by decide +kernel) rfl, zW_at 934 (by decide +kernel) rfl, zW_at 63 (by decide +kernel) rfl, by decide +kernel⟩
theorem mlL_83 : Cond.methodLink RL 83 yX7_image ∈ zW := zW_at 632 (by decide +kernel) rfl
theorem mlL_86 : Cond.methodLink RL 86 yX8_image ∈ zW := zW_at 932 (by decide +kernel) rfl
theorem v_X7_back : zV yX7_back cX7_back 2 (some .int) 1 := ⟨zW_at 640 (by decide +kernel) rfl, zW_at 638 (by decide +kernel) rfl, zW_at 639 (by decide +kernel) rfl, zW_at 55 (by decide +kernel) rfl, by decide +kernel⟩
theorem v_X8_back : zV yX8_back cX8_back 2 (some .int) 1 := ⟨zW_at 946 (by decide +kernel) rfl, zW_at 944 (by decide +kernel) rfl, zW_at 945 (by decide +kernel) rfl, zW_at 63 (by decide +kernel) rfl, by decide +kernel⟩
theorem mlL_87 : Cond.methodLink RL 87 yX7_back ∈ zW := zW_at 637 (by decide +kernel) rfl
theorem mlL_90 : Cond.methodLink RL 90 yX8_back ∈ zW := zW_at 943 (by decide +kernel) rfl
theorem v_X7_hash : zV yX7_hash cX7_hash 6 (some .int) 5 := ⟨zW_at 644 (by decide +kernel) rfl, zW_at 642 (by decide +kernel) rfl, zW_at 643 (by decide +kernel) rfl, zW_at 55 (by decide +kernel) rfl, by decide +kernel⟩
theorem v_X8_hash : zV yX8_hash cX8_hash 6 (some .int) 5 := ⟨zW_at 1163 (by decide +kernel) rfl, zW_at 1161 (by decide +kernel) rfl, zW_at 1162 (by decide +kernel) rfl, zW_at 63 (by decide +kernel) rfl, by decide +kernel⟩
theorem mlL_91 : Cond.methodLink RL 91 yX7_hash ∈ zW := zW_at 641 (by decide +kernel) rfl
theorem mlL_94 : Cond.methodLink RL 94 yX8_hash ∈ zW := zW_at 1160 (by decide +kernel) rfl
theorem v_X7_hashOf : zV yX7_hashOf cX7_hashOf 2 (some .int) 1 := ⟨zW_at 649 (by decide +kernel) rfl, zW_at 647 (by decide +kernel) rfl, zW_at 648 (by decide +kernel) rfl, zW_at 55 (by decide +kernel) rfl, by decide +kernel⟩
theorem v_X8_hashOf : zV yX8_hashOf cX8_hashOf 2 (some .int) 1 := ⟨zW_at 1167 (by decide +kernel) rfl, zW_at 1165 (by decide +kernel) rfl, zW_at 1166 (by decide +kernel) rfl, zW_at 63 (by decide +kernel) rfl, by decide +kernel⟩
theorem mlL_95 : Cond.methodLink RL 95 yX7_hashOf ∈ zW := zW_at 646 (by decide +kernel) rfl
theorem mlL_98 : Cond.methodLink RL 98 yX8_hashOf ∈ zW := zW_at 1164 (by decide +kernel) rfl
theorem v_X7_of : zV yX7_of cX7_of 3 (some .int) 2 := ⟨zW_at 654 (by decide +kernel) rfl, zW_at 652 (by decide +kernel) rfl, zW_at 653 (by decide +kernel) rfl, zW_at 55 (by decide +kernel) rfl, by decide +kernel⟩
theorem v_X8_of : zV yX8_of cX8_of 5 (some .int) 2 := ⟨zW_at 1171 (by decide +kernel) rfl, zW_at 1169 (by decide +kernel) rfl, zW_at 1170 (by decide +kernel) rfl, zW_at 63 (by decide +kernel) rfl, by decide +kernel⟩
theorem mlL_99 : Cond.methodLink RL 99 yX7_of ∈ zW := zW_at 651 (by decide +kernel) rfl
theorem mlL_102 : Cond.methodLink RL 102 yX8_of ∈ zW := zW_at 1168 (by decide +kernel) rfl
theorem v_X7_find : zV yX7_find cX7_find 6 (some .int) 5 := ⟨zW_at 663 (by decide +kernel) rfl, zW_at 661 (by decide +kernel) rfl, zW_at 662 (by decide +kernel) rfl, zW_at 55 (by decide +kernel) rfl, by decide +kernel⟩
theorem v_X8_find : zV yX8_find cX8_find 6 (some .int) 5 := ⟨zW_at 1184 (by decide +kernel) rfl, zW_at 1182 (by decide +kernel) rfl, zW_at 1183 (by decide +kernel) rfl, zW_at 63 (by decide +kernel) rfl, by decide +kernel⟩
theorem mlL_103 : Cond.methodLink RL 103 yX7_find ∈ zW := zW_at 660 (by decide +kernel) rfl
theorem mlL_106 : Cond.methodLink RL 106 yX8_find ∈ zW := zW_at 1181 (by decide +kernel) rfl
theorem v_X7_missing : zV yX7_missing cX7_missing 3 (some .int) 2 := ⟨zW_at 667 (by decide +kernel) rfl, zW_at 665 (by decide +kernel) rfl, zW_at 666 (by decide +kernel) rfl, zW_at 55 (by decide +kernel) rfl, by decide +kernel⟩
theorem v_X8_missing : zV yX8_missing cX8_missing 10 (some .int) 2 := ⟨zW_at 1180 (by decide +kernel) rfl, zW_at 1178 (by decide +kernel) rfl, zW_at 1179 (by decide +kernel) rfl, zW_at 63 (by decide +kernel) rfl, by decide +kernel⟩
theorem mlL_107 : Cond.methodLink RL 107 yX7_missing ∈ zW := zW_at 664 (by decide +kernel) rfl
theorem mlL_110 : Cond.methodLink RL 110 yX8_missing ∈ zW := zW_at 1177 (by decide +kernel) rfl
theorem v_X7_entry : zV yX7_entry cX7_entry 3 (some .int) 2 := ⟨zW_at 680 (by decide +kernel) rfl, zW_at 678 (by decide +kernel) rfl, zW_at 679 (by decide +kernel) rfl, zW_at 55 (by decide +kernel) rfl, by decide +kernel⟩
theorem v_X8_entry : zV yX8_entry cX8_entry 5 (some .int) 2 := ⟨zW_at 1188 (by decide +kernel) rfl, zW_at 1186 (by decide +kernel) rfl, zW_at 1187 (by decide +kernel) rfl, zW_at 63 (by decide +kernel) rfl, by decide +kernel⟩
theorem mlL_111 : Cond.methodLink RL 111 yX7_entry ∈ zW := zW_at 677 (by decide +kernel) rfl
theorem mlL_114 : Cond.methodLink RL 114 yX8_entry ∈ zW := zW_at 1185 (by decide +kernel) rfl
theorem v_X7_queue : zV yX7_queue cX7_queue 3 (some .int) 2 := ⟨zW_at 688 (by decide +kernel) rfl, zW_at 686 (by decide +kernel) rfl, zW_at 687 (by decide +kernel) rfl, zW_at 55 (by decide +kernel) rfl, by decide +kernel⟩
theorem v_X8_queue : zV yX8_queue cX8_queue 4 (some .int) 2 := ⟨zW_at 1193 (by decide +kernel) rfl, zW_at 1191 (by decide +kernel) rfl, zW_at 1192 (by decide +kernel) rfl, zW_at 63 (by decide +kernel) rfl, by decide +kernel⟩
theorem mlL_115 : Cond.methodLink RL 115 yX7_queue ∈ zW := zW_at 685 (by decide +kernel) rfl
theorem mlL_118 : Cond.methodLink RL 118 yX8_queue ∈ zW := zW_at 1190 (by decide +kernel) rfl
theorem v_X7_waits : zV yX7_waits cX7_waits 4 (some .int) 3 := ⟨zW_at 705 (by decide +kernel) rfl, zW_at 703 (by decide +kernel) rfl, zW_at 704 (by decide +kernel) rfl, zW_at 55 (by decide +kernel) rfl, by decide +kernel⟩
theorem v_X8_waits : zV yX8_waits cX8_waits 4 (some .int) 3 := ⟨zW_at 1206 (by decide +kernel) rfl, zW_at 1204 (by decide +kernel) rfl, zW_at 1205 (by decide +kernel) rfl, zW_at 63 (by decide +kernel) rfl, by decide +kernel⟩
theorem mlL_119 : Cond.methodLink RL 119 yX7_waits ∈ zW := zW_at 702 (by decide +kernel) rfl
theorem mlL_122 : Cond.methodLink RL 122 yX8_waits ∈ zW := zW_at 1203 (by decide +kernel) rfl
theorem v_X7_segment : zV yX7_segment cX7_segment 3 (some .int) 2 := ⟨zW_at 710 (by decide +kernel) rfl, zW_at 708 (by decide +kernel) rfl, zW_at 709 (by decide +kernel) rfl, zW_at 55 (by decide +kernel) rfl, by decide +kernel⟩
theorem v_X8_segment : zV yX8_segment cX8_segment 3 (some .int) 2 := ⟨zW_at 1210 (by decide +kernel) rfl, zW_at 1208 (by decide +kernel) rfl, zW_at 1209 (by decide +kernel) rfl, zW_at 63 (by decide +kernel) rfl, by decide +kernel⟩
theorem mlL_123 : Cond.methodLink RL 123 yX7_segment ∈ zW := zW_at 707 (by decide +kernel) rfl
theorem mlL_126 : Cond.methodLink RL 126 yX8_segment ∈ zW := zW_at 1207 (by decide +kernel) rfl
theorem v_X7_given : zV yX7_given cX7_given 2 (some .long) 1 := ⟨zW_at 718 (by decide +kernel) rfl, zW_at 716 (by decide +kernel) rfl, zW_at 717 (by decide +kernel) rfl, zW_at 55 (by decide +kernel) rfl, by decide +kernel⟩
theorem v_X8_given : zV yX8_given cX8_given 2 (some .long) 1 := ⟨zW_at 1214 (by decide +kernel) rfl, zW_at 1212 (by decide +kernel) rfl, zW_at 1213 (by decide +kernel) rfl, zW_at 63 (by decide +kernel) rfl, by decide +kernel⟩
theorem mlL_127 : Cond.methodLink RL 127 yX7_given ∈ zW := zW_at 715 (by decide +kernel) rfl
theorem mlL_131 : Cond.methodLink RL 131 yX8_given ∈ zW := zW_at 1211 (by decide +kernel) rfl
theorem v_X7_window : zV yX7_window cX7_window 2 (some .int) 1 := ⟨zW_at 723 (by decide +kernel) rfl, zW_at 721 (by decide +kernel) rfl, zW_at 722 (by decide +kernel) rfl, zW_at 55 (by decide +kernel) rfl, by decide +kernel⟩
theorem v_X8_window : zV yX8_window cX8_window 2 (some .int) 1 := ⟨zW_at 1219 (by decide +kernel) rfl, zW_at 1217 (by decide +kernel) rfl, zW_at 1218 (by decide +kernel) rfl, zW_at 63 (by decide +kernel) rfl, by decide +kernel⟩
theorem mlL_132 : Cond.methodLink RL 132 yX7_window ∈ zW := zW_at 720 (by decide +kernel) rfl
theorem mlL_135 : Cond.methodLink RL 135 yX8_window ∈ zW := zW_at 1216 (by decide +kernel) rfl
theorem v_X7_isBothWays : zV yX7_isBothWays cX7_isBothWays 1 (some .boolean) 0 := ⟨zW_at 731 (by decide +kernel) rfl, zW_at 729 (by decide +kernel) rfl, zW_at 730 (by decide +kernel) rfl, zW_at 55 (by decide +kernel) rfl, by decide +kernel⟩
theorem v_X8_isBothWays : zV yX8_isBothWays cX8_isBothWays 3 (some .boolean) 0 := ⟨zW_at 1224 (by decide +kernel) rfl, zW_at 1222 (by decide +kernel) rfl, zW_at 1223 (by decide +kernel) rfl, zW_at 63 (by decide +kernel) rfl, by decide +kernel⟩
theorem mlL_136 : Cond.methodLink RL 136 yX7_isBothWays ∈ zW := zW_at 728 (by decide +kernel) rfl
theorem mlL_140 : Cond.methodLink RL 140 yX8_isBothWays ∈ zW := zW_at 1221 (by decide +kernel) rfl
theorem v_X7_reach : zV yX7_reach cX7_reach 1 (some .int) 0 := ⟨zW_at 739 (by decide +kernel) rfl, zW_at 737 (by decide +kernel) rfl, zW_at 738 (by decide +kernel) rfl, zW_at 55 (by decide +kernel) rfl, by decide +kernel⟩
theorem v_X8_reach : zV yX8_reach cX8_reach 6 (some .int) 0 := ⟨zW_at 1232 (by decide +kernel) rfl, zW_at 1230 (by decide +kernel) rfl, zW_at 1231 (by decide +kernel) rfl, zW_at 63 (by decide +kernel) rfl, by decide +kernel⟩
theorem mlL_141 : Cond.methodLink RL 141 yX7_reach ∈ zW := zW_at 736 (by decide +kernel) rfl
theorem mlL_144 : Cond.methodLink RL 144 yX8_reach ∈ zW := zW_at 1229 (by decide +kernel) rfl
theorem v_X7_aim : zV yX7_aim cX7_aim 5 (some .int) 2 := ⟨zW_at 757 (by decide +kernel) rfl, zW_at 755 (by decide +kernel) rfl, zW_at 756 (by decide +kernel) rfl, zW_at 55 (by decide +kernel) rfl, by decide +kernel⟩
theorem v_X8_aim : zV yX8_aim cX8_aim 5 (some .int) 2 := ⟨zW_at 1236 (by decide +kernel) rfl, zW_at 1234 (by decide +kernel) rfl, zW_at 1235 (by decide +kernel) rfl, zW_at 63 (by decide +kernel) rfl, by decide +kernel⟩
theorem mlL_145 : Cond.methodLink RL 145 yX7_aim ∈ zW := zW_at 754 (by decide +kernel) rfl
theorem mlL_148 : Cond.methodLink RL 148 yX8_aim ∈ zW := zW_at 1233 (by decide +kernel) rfl
theorem v_X7_spread : zV yX7_spread cX7_spread 6 (some .int) 1 := ⟨zW_at 763 (by decide +kernel) rfl, zW_at 761 (by decide +kernel) rfl, zW_at 762 (by decide +kernel) rfl, zW_at 55 (by decide +kernel) rfl, by decide +kernel⟩
theorem v_X8_spread : zV yX8_spread cX8_spread 10 (some .int) 1 := ⟨zW_at 1240 (by decide +kernel) rfl, zW_at 1238 (by decide +kernel) rfl, zW_at 1239 (by decide +kernel) rfl, zW_at 63 (by decide +kernel) rfl, by decide +kernel⟩
theorem mlL_149 : Cond.methodLink RL 149 yX7_spread ∈ zW := zW_at 760 (by decide +kernel) rfl
theorem mlL_152 : Cond.methodLink RL 152 yX8_spread ∈ zW := zW_at 1237 (by decide +kernel) rfl
theorem v_X7_ratio : zV yX7_ratio cX7_ratio 12 (some .long) 1 := ⟨zW_at 779 (by decide +kernel) rfl, zW_at 777 (by decide +kernel) rfl, zW_at 778 (by decide +kernel) rfl, zW_at 55 (by decide +kernel) rfl, by decide +kernel⟩
theorem v_X8_ratio : zV yX8_ratio cX8_ratio 6 (some .long) 1 := ⟨zW_at 1248 (by decide +kernel) rfl, zW_at 1246 (by decide +kernel) rfl, zW_at 1247 (by decide +kernel) rfl, zW_at 63 (by decide +kernel) rfl, by decide +kernel⟩
theorem mlL_153 : Cond.methodLink RL 153 yX7_ratio ∈ zW := zW_at 776 (by decide +kernel) rfl
theorem mlL_156 : Cond.methodLink RL 156 yX8_ratio ∈ zW := zW_at 1245 (by decide +kernel) rfl
theorem v_X7_alike : zV yX7_alike cX7_alike 3 (some .int) 0 := ⟨zW_at 786 (by decide +kernel) rfl, zW_at 784 (by decide +kernel) rfl, zW_at 785 (by decide +kernel) rfl, zW_at 55 (by decide +kernel) rfl, by decide +kernel⟩
theorem v_X8_alike : zV yX8_alike cX8_alike 3 (some .int) 0 := ⟨zW_at 1255 (by decide +kernel) rfl, zW_at 1253 (by decide +kernel) rfl, zW_at 1254 (by decide +kernel) rfl, zW_at 63 (by decide +kernel) rfl, by decide +kernel⟩
theorem mlL_157 : Cond.methodLink RL 157 yX7_alike ∈ zW := zW_at 783 (by decide +kernel) rfl
theorem mlL_160 : Cond.methodLink RL 160 yX8_alike ∈ zW := zW_at 1252 (by decide +kernel) rfl
theorem v_X7_load : zV yX7_load cX7_load 3 (some .int) 1 := ⟨zW_at 790 (by decide +kernel) rfl, zW_at 788 (by decide +kernel) rfl, zW_at 789 (by decide +kernel) rfl, zW_at 55 (by decide +kernel) rfl, by decide +kernel⟩
theorem v_X8_load : zV yX8_load cX8_load 4 (some .int) 1 := ⟨zW_at 1259 (by decide +kernel) rfl, zW_at 1257 (by decide +kernel) rfl, zW_at 1258 (by decide +kernel) rfl, zW_at 63 (by decide +kernel) rfl, by decide +kernel⟩
theorem mlL_161 : Cond.methodLink RL 161 yX7_load ∈ zW := zW_at 787 (by decide +kernel) rfl
theorem mlL_164 : Cond.methodLink RL 164 yX8_load ∈ zW := zW_at 1256 (by decide +kernel) rfl
theorem v_X7_would : zV yX7_would cX7_would 5 (some .int) 2 := ⟨zW_at 807 (by decide +kernel) rfl, zW_at 805 (by decide +kernel) rfl, zW_at 806 (by decide +kernel) rfl, zW_at 55 (by decide +kernel) rfl, by decide +kernel⟩
theorem v_X8_would : zV yX8_would cX8_would 4 (some .int) 2 := ⟨zW_at 1271 (by decide +kernel) rfl, zW_at 1269 (by decide +kernel) rfl, zW_at 1270 (by decide +kernel) rfl, zW_at 63 (by decide +kernel) rfl, by decide +kernel⟩
theorem mlL_165 : Cond.methodLink RL 165 yX7_would ∈ zW := zW_at 804 (by decide +kernel) rfl
theorem mlL_168 : Cond.methodLink RL 168 yX8_would ∈ zW := zW_at 1268 (by decide +kernel) rfl
theorem v_X7_drain : zV yX7_drain cX7_drain 3 (some .int) 0 := ⟨zW_at 820 (by decide +kernel) rfl, zW_at 818 (by decide +kernel) rfl, zW_at 819 (by decide +kernel) rfl, zW_at 55 (by decide +kernel) rfl, by decide +kernel⟩
theorem v_X8_drain : zV yX8_drain cX8_drain 3 (some .int) 0 := ⟨zW_at 1279 (by decide +kernel) rfl, zW_at 1277 (by decide +kernel) rfl, zW_at 1278 (by decide +kernel) rfl, zW_at 63 (by decide +kernel) rfl, by decide +kernel⟩
theorem mlL_169 : Cond.methodLink RL 169 yX7_drain ∈ zW := zW_at 817 (by decide +kernel) rfl
theorem mlL_172 : Cond.methodLink RL 172 yX8_drain ∈ zW := zW_at 1276 (by decide +kernel) rfl
theorem v_X7_nextCall : zV yX7_nextCall cX7_nextCall 5 (some .int) 1 := ⟨zW_at 824 (by decide +kernel) rfl, zW_at 822 (by decide +kernel) rfl, zW_at 823 (by decide +kernel) rfl, zW_at 55 (by decide +kernel) rfl, by decide +kernel⟩
theorem v_X8_nextCall : zV yX8_nextCall cX8_nextCall 5 (some .int) 1 := ⟨zW_at 1283 (by decide +kernel) rfl, zW_at 1281 (by decide +kernel) rfl, zW_at 1282 (by decide +kernel) rfl, zW_at 63 (by decide +kernel) rfl, by decide +kernel⟩
theorem mlL_173 : Cond.methodLink RL 173 yX7_nextCall ∈ zW := zW_at 821 (by decide +kernel) rfl
theorem mlL_176 : Cond.methodLink RL 176 yX8_nextCall ∈ zW := zW_at 1280 (by decide +kernel) rfl
theorem v_X7_joined : zV yX7_joined cX7_joined 5 (some .int) 2 := ⟨zW_at 828 (by decide +kernel) rfl, zW_at 826 (by decide +kernel) rfl, zW_at 827 (by decide +kernel) rfl, zW_at 55 (by decide +kernel) rfl, by decide +kernel⟩
theorem v_X8_joined : zV yX8_joined cX8_joined 3 (some .int) 2 := ⟨zW_at 1287 (by decide +kernel) rfl, zW_at 1285 (by decide +kernel) rfl, zW_at 1286 (by decide +kernel) rfl, zW_at 63 (by decide +kernel) rfl, by decide +kernel⟩
theorem mlL_177 : Cond.methodLink RL 177 yX7_joined ∈ zW := zW_at 825 (by decide +kernel) rfl
theorem mlL_180 : Cond.methodLink RL 180 yX8_joined ∈ zW := zW_at 1284 (by decide +kernel) rfl
theorem v_X7_count : zV yX7_count cX7_count 2 (some .int) 1 := ⟨zW_at 832 (by decide +kernel) rfl, zW_at 830 (by decide +kernel) rfl, zW_at 831 (by decide +kernel) rfl, zW_at 55 (by decide +kernel) rfl, by decide +kernel⟩
theorem v_X8_count : zV yX8_count cX8_count 2 (some .int) 1 := ⟨zW_at 1291 (by decide +kernel) rfl, zW_at 1289 (by decide +kernel) rfl, zW_at 1290 (by decide +kernel) rfl, zW_at 63 (by decide +kernel) rfl, by decide +kernel⟩
theorem mlL_181 : Cond.methodLink RL 181 yX7_count ∈ zW := zW_at 829 (by decide +kernel) rfl
theorem mlL_184 : Cond.methodLink RL 184 yX8_count ∈ zW := zW_at 1288 (by decide +kernel) rfl
theorem v_X7_status : zV yX7_status cX7_status 1 (some .int) 0 := ⟨zW_at 844 (by decide +kernel) rfl, zW_at 842 (by decide +kernel) rfl, zW_at 843 (by decide +kernel) rfl, zW_at 55 (by decide +kernel) rfl, by decide +kernel⟩
theorem v_X8_status : zV yX8_status cX8_status 1 (some .int) 0 := ⟨zW_at 1297 (by decide +kernel) rfl, zW_at 1295 (by decide +kernel) rfl, zW_at 1296 (by decide +kernel) rfl, zW_at 63 (by decide +kernel) rfl, by decide +kernel⟩
theorem mlL_185 : Cond.methodLink RL 185 yX7_status ∈ zW := zW_at 841 (by decide +kernel) rfl
theorem mlL_188 : Cond.methodLink RL 188 yX8_status ∈ zW := zW_at 1294 (by decide +kernel) rfl
theorem clL_7 : Cond.classLink RL 7 RX7 ∈ zW := zW_at 67 (by decide +kernel) rfl
theorem clL_10 : Cond.classLink RL 10 RX8 ∈ zW := zW_at 845 (by decide +kernel) rfl
theorem i_X7_init : zI yX7_init cX7_init 1 0 := ⟨zW_at 71 (by decide +kernel) rfl, zW_at 70 (by decide +kernel) rfl, zW_at 55 (by decide +kernel) rfl, rfl, by decide +kernel⟩
theorem i_X8_init : zI yX8_init cX8_init 2 0 := ⟨zW_at 849 (by decide +kernel) rfl, zW_at 848 (by decide +kernel) rfl, zW_at 63 (by decide +kernel) rfl, rfl, by decide +kernel⟩
theorem mlL_9 : Cond.methodLink RL 9 yX7_init ∈ zW := zW_at 69 (by decide +kernel) rfl
theorem mlL_12 : Cond.methodLink RL 12 yX8_init ∈ zW := zW_at 847 (by decide +kernel) rfl
section ZM
variable {p : Program} {l : Launch} {e : Env} {s : State} {m : MethodId} {below : List Frame} {meth : Method} {c : Code} {g : zG} {b L : Nat} {xs : Nat → Int32} {ma ha ra : Nat → Nat} {bd : Nat → Nat → Nat}
/-- key: both answer alike, and stay alike -/
def pX_key (Rel Rel1 : TS → RS → Prop) : Prop := ∀ (u : TS) (r : RS) (a1 a2 a3 : Int32), Rel u r → wp_X7_key u a1 a2 a3 (fun x u1 => wp_X8_key r a1 a2 a3 (fun y r1 => x = y ∧ Rel1 u1 r1))
set_option maxRecDepth 20000 in
theorem law_0 (C : zCL p s m b meth c g) (hX : va_X b L xs s s.heap) (hbl : b < s.heap.size) (hbA : ¬ AL s b) {Rel Rel1 : TS → RS → Prop} {u : TS} {r : RS} {x3 : Int32} {k n : Nat} (h1 : vp_in (x3 + 1) L) (h2 : vp_in (x3 + 2) L) (h3 : vp_in (x3 + 3) L) (h4 : vp_in (x3 + 4) L) (h5 : vp_in (x3 + 5) L) (hk : k + 26 ≤ 600000) (hn : n + 1308 ≤ 7302250) (h : pX_key Rel Rel1) (hr : Rel u r) (K : ∀ (u1 : TS) (v1 : RS), Rel1 u1 v1 → jL p l e s m below meth c g b ma ha ra bd u1 v1 x3 (k + 26) (n + 1308) 1460 []) : jL p l e s m below meth c g b ma ha ra bd u r x3 k n 216 [] := by
  have h := h u r (xs (zn (x3 + 1))) (xs (zn (x3 + 2))) (xs (zn (x3 + 3))) hr
  refine z_aload_n C dL_law_216 rfl 1 rfl ?_
  refine z_aload_n C dL_law_217 rfl 0 rfl ?_
  refine z_iload_n C dL_law_218 rfl 3 rfl ?_
  refine z_iconst (v := 1) C dL_law_219 (by decide) ?_
  refine z_iadd C dL_law_220 ?_
  refine z_sld C hX hbl hbA h1 dL_law_221 ?_
  refine z_aload_n C dL_law_222 rfl 0 rfl ?_
  refine z_iload_n C dL_law_223 rfl 3 rfl ?_
  refine z_iconst (v := 2) C dL_law_224 (by decide) ?_
  refine z_iadd C dL_law_225 ?_
  refine z_sld C hX hbl hbA h2 dL_law_226 ?_
  refine z_aload_n C dL_law_227 rfl 0 rfl ?_
  refine z_iload_n C dL_law_228 rfl 3 rfl ?_
  refine z_iconst (v := 3) C dL_law_229 (by decide) ?_
  refine z_iadd C dL_law_230 ?_
  refine z_sld C hX hbl hbA h3 dL_law_231 ?_
  refine z_Vi (As := [.int (xs (zn (x3 + 1))), .int (xs (zn (x3 + 2))), .int (xs (zn (x3 + 3)))]) C [] (wT g ma ha bd u) (wR g ra r) rfl (c_X7_key l g ma ha bd u (xs (zn (x3 + 1))) (xs (zn (x3 + 2))) (xs (zn (x3 + 3))) _ h) v_X7_key mlL_13 7 (q := (RX7, TX7, 7)) rfl rfl 0 rfl ⟨Nat.le_of_ble_eq_true rfl, Nat.le_of_ble_eq_true rfl⟩ ⟨hk, hn⟩ (Nat.le_of_ble_eq_true rfl) rfl dL_law_232 (fun r1 u1 h => ?_)
  refine z_ws (ws1 := wT g ma ha bd u1 ++ wR g ra r) rfl ?_
  refine z_aload_n C dL_law_235 rfl 2 rfl ?_
  refine z_aload_n C dL_law_236 rfl 0 rfl ?_
  refine z_iload_n C dL_law_237 rfl 3 rfl ?_
  refine z_iconst (v := 1) C dL_law_238 (by decide) ?_
  refine z_iadd C dL_law_239 ?_
  refine z_sld C hX hbl hbA h1 dL_law_240 ?_
  refine z_aload_n C dL_law_241 rfl 0 rfl ?_
  refine z_iload_n C dL_law_242 rfl 3 rfl ?_
  refine z_iconst (v := 2) C dL_law_243 (by decide) ?_
  refine z_iadd C dL_law_244 ?_
  refine z_sld C hX hbl hbA h2 dL_law_245 ?_
  refine z_aload_n C dL_law_246 rfl 0 rfl ?_
  refine z_iload_n C dL_law_247 rfl 3 rfl ?_
  refine z_iconst (v := 3) C dL_law_248 (by decide) ?_
  refine z_iadd C dL_law_249 ?_
  refine z_sld C hX hbl hbA h3 dL_law_250 ?_
  refine z_Vi (As := [.int (xs (zn (x3 + 1))), .int (xs (zn (x3 + 2))), .int (xs (zn (x3 + 3)))]) C (wT g ma ha bd u1) (wR g ra r) [] (by rw [List.append_nil]) (c_X8_key l g ra r (xs (zn (x3 + 1))) (xs (zn (x3 + 2))) (xs (zn (x3 + 3))) _ h) v_X8_key mlL_17 8 (q := (RX8, TX8, 20)) rfl rfl 0 rfl ⟨Nat.le_of_ble_eq_true rfl, Nat.le_of_ble_eq_true rfl⟩ ⟨hk, hn⟩ (Nat.le_of_ble_eq_true rfl) rfl dL_law_251 (fun r2 v1 h => ?_)
  refine z_ws (ws1 := wT g ma ha bd u1 ++ wR g ra v1) (by rw [List.append_nil]) ?_
  exact z_icmp_eq C dL_law_254 (tgt := 1460) (by decide) (fun _ => K u1 v1 h.2) (fun hc => absurd h.1 hc)
/-- mask: both answer alike, and stay alike -/
def pX_mask (Rel Rel1 : TS → RS → Prop) : Prop := ∀ (u : TS) (r : RS) (a1 : Int32), Rel u r → wp_X7_mask u a1 (fun x u1 => wp_X8_mask r a1 (fun y r1 => x = y ∧ Rel1 u1 r1))
set_option maxRecDepth 20000 in
theorem law_1 (C : zCL p s m b meth c g) (hX : va_X b L xs s s.heap) (hbl : b < s.heap.size) (hbA : ¬ AL s b) {Rel Rel1 : TS → RS → Prop} {u : TS} {r : RS} {x3 : Int32} {k n : Nat} (h1 : vp_in (x3 + 1) L) (h2 : vp_in (x3 + 2) L) (h3 : vp_in (x3 + 3) L) (h4 : vp_in (x3 + 4) L) (h5 : vp_in (x3 + 5) L) (hk : k + 26 ≤ 600000) (hn : n + 1308 ≤ 7302250) (h : pX_mask Rel Rel1) (hr : Rel u r) (K : ∀ (u1 : TS) (v1 : RS), Rel1 u1 v1 → jL p l e s m below meth c g b ma ha ra bd u1 v1 x3 (k + 26) (n + 1308) 1460 []) : jL p l e s m below meth c g b ma ha ra bd u r x3 k n 259 [] := by
  have h := h u r (xs (zn (x3 + 1))) hr
  refine z_aload_n C dL_law_259 rfl 1 rfl ?_
  refine z_aload_n C dL_law_260 rfl 0 rfl ?_
  refine z_iload_n C dL_law_261 rfl 3 rfl ?_
  refine z_iconst (v := 1) C dL_law_262 (by decide) ?_
  refine z_iadd C dL_law_263 ?_
  refine z_sld C hX hbl hbA h1 dL_law_264 ?_
  refine z_Vi (As := [.int (xs (zn (x3 + 1)))]) C [] (wT g ma ha bd u) (wR g ra r) rfl (c_X7_mask l g ma ha bd u (xs (zn (x3 + 1))) _ h) v_X7_mask mlL_18 7 (q := (RX7, TX7, 7)) rfl rfl 0 rfl ⟨Nat.le_of_ble_eq_true rfl, Nat.le_of_ble_eq_true rfl⟩ ⟨hk, hn⟩ (Nat.le_of_ble_eq_true rfl) rfl dL_law_265 (fun r1 u1 h => ?_)
  refine z_ws (ws1 := wT g ma ha bd u1 ++ wR g ra r) rfl ?_
  refine z_aload_n C dL_law_268 rfl 2 rfl ?_
  refine z_aload_n C dL_law_269 rfl 0 rfl ?_
  refine z_iload_n C dL_law_270 rfl 3 rfl ?_
  refine z_iconst (v := 1) C dL_law_271 (by decide) ?_
  refine z_iadd C dL_law_272 ?_
  refine z_sld C hX hbl hbA h1 dL_law_273 ?_
  refine z_Vi (As := [.int (xs (zn (x3 + 1)))]) C (wT g ma ha bd u1) (wR g ra r) [] (by rw [List.append_nil]) (c_X8_mask l g ra r (xs (zn (x3 + 1))) _ h) v_X8_mask mlL_22 8 (q := (RX8, TX8, 20)) rfl rfl 0 rfl ⟨Nat.le_of_ble_eq_true rfl, Nat.le_of_ble_eq_true rfl⟩ ⟨hk, hn⟩ (Nat.le_of_ble_eq_true rfl) rfl dL_law_274 (fun r2 v1 h => ?_)
  refine z_ws (ws1 := wT g ma ha bd u1 ++ wR g ra v1) (by rw [List.append_nil]) ?_
  exact z_icmp_eq C dL_law_277 (tgt := 1460) (by decide) (fun _ => K u1 v1 h.2) (fun hc => absurd h.1 hc)
/-- flow: both answer alike, and stay alike -/
def pX_flow (Rel Rel1 : TS → RS → Prop) : Prop := ∀ (u : TS) (r : RS) (a1 a2 a3 a4 a5 : Int32), Rel u r → wp_X7_flow u a1 a2 a3 a4 a5 (fun x u1 => wp_X8_flow r a1 a2 a3 a4 a5 (fun y r1 => x = y ∧ Rel1 u1 r1))
set_option maxRecDepth 20000 in
theorem law_2 (C : zCL p s m b meth c g) (hX : va_X b L xs s s.heap) (hbl : b < s.heap.size) (hbA : ¬ AL s b) {Rel Rel1 : TS → RS → Prop} {u : TS} {r : RS} {x3 : Int32} {k n : Nat} (h1 : vp_in (x3 + 1) L) (h2 : vp_in (x3 + 2) L) (h3 : vp_in (x3 + 3) L) (h4 : vp_in (x3 + 4) L) (h5 : vp_in (x3 + 5) L) (hk : k + 26 ≤ 600000) (hn : n + 1308 ≤ 7302250) (h : pX_flow Rel Rel1) (hr : Rel u r) (K : ∀ (u1 : TS) (v1 : RS), Rel1 u1 v1 → jL p l e s m below meth c g b ma ha ra bd u1 v1 x3 (k + 26) (n + 1308) 1460 []) : jL p l e s m below meth c g b ma ha ra bd u r x3 k n 282 [] := by
  have h := h u r (xs (zn (x3 + 1))) (xs (zn (x3 + 2))) (xs (zn (x3 + 3))) (xs (zn (x3 + 4))) (xs (zn (x3 + 5))) hr
  refine z_aload_n C dL_law_282 rfl 1 rfl ?_
  refine z_aload_n C dL_law_283 rfl 0 rfl ?_
  refine z_iload_n C dL_law_284 rfl 3 rfl ?_
  refine z_iconst (v := 1) C dL_law_285 (by decide) ?_
  refine z_iadd C dL_law_286 ?_
  refine z_sld C hX hbl hbA h1 dL_law_287 ?_
  refine z_aload_n C dL_law_288 rfl 0 rfl ?_
  refine z_iload_n C dL_law_289 rfl 3 rfl ?_
  refine z_iconst (v := 2) C dL_law_290 (by decide) ?_
  refine z_iadd C dL_law_291 ?_
  refine z_sld C hX hbl hbA h2 dL_law_292 ?_
  refine z_aload_n C dL_law_293 rfl 0 rfl ?_
  refine z_iload_n C dL_law_294 rfl 3 rfl ?_
  refine z_iconst (v := 3) C dL_law_295 (by decide) ?_
  refine z_iadd C dL_law_296 ?_
  refine z_sld C hX hbl hbA h3 dL_law_297 ?_
  refine z_aload_n C dL_law_298 rfl 0 rfl ?_
  refine z_iload_n C dL_law_299 rfl 3 rfl ?_
  refine z_iconst (v := 4) C dL_law_300 (by decide) ?_
  refine z_iadd C dL_law_301 ?_
  refine z_sld C hX hbl hbA h4 dL_law_302 ?_
  refine z_aload_n C dL_law_303 rfl 0 rfl ?_
  refine z_iload_n C dL_law_304 rfl 3 rfl ?_
  refine z_iconst (v := 5) C dL_law_305 (by decide) ?_
  refine z_iadd C dL_law_306 ?_
  refine z_sld C hX hbl hbA h5 dL_law_307 ?_
  refine z_Vi (As := [.int (xs (zn (x3 + 1))), .int (xs (zn (x3 + 2))), .int (xs (zn (x3 + 3))), .int (xs (zn (x3 + 4))), .int (xs (zn (x3 + 5)))]) C [] (wT g ma ha bd u) (wR g ra r) rfl (c_X7_flow l g ma ha bd u (xs (zn (x3 + 1))) (xs (zn (x3 + 2))) (xs (zn (x3 + 3))) (xs (zn (x3 + 4))) (xs (zn (x3 + 5))) _ h) v_X7_flow mlL_23 7 (q := (RX7, TX7, 7)) rfl rfl 0 rfl ⟨Nat.le_of_ble_eq_true rfl, Nat.le_of_ble_eq_true rfl⟩ ⟨hk, hn⟩ (Nat.le_of_ble_eq_true rfl) rfl dL_law_308 (fun r1 u1 h => ?_)
  refine z_ws (ws1 := wT g ma ha bd u1 ++ wR g ra r) rfl ?_
  refine z_aload_n C dL_law_311 rfl 2 rfl ?_
  refine z_aload_n C dL_law_312 rfl 0 rfl ?_
  refine z_iload_n C dL_law_313 rfl 3 rfl ?_
  refine z_iconst (v := 1) C dL_law_314 (by decide) ?_
  refine z_iadd C dL_law_315 ?_
  refine z_sld C hX hbl hbA h1 dL_law_316 ?_
  refine z_aload_n C dL_law_317 rfl 0 rfl ?_
  refine z_iload_n C dL_law_318 rfl 3 rfl ?_
  refine z_iconst (v := 2) C dL_law_319 (by decide) ?_
  refine z_iadd C dL_law_320 ?_
  refine z_sld C hX hbl hbA h2 dL_law_321 ?_
  refine z_aload_n C dL_law_322 rfl 0 rfl ?_
  refine z_iload_n C dL_law_323 rfl 3 rfl ?_
  refine z_iconst (v := 3) C dL_law_324 (by decide) ?_
  refine z_iadd C dL_law_325 ?_
  refine z_sld C hX hbl hbA h3 dL_law_326 ?_
  refine z_aload_n C dL_law_327 rfl 0 rfl ?_
  refine z_iload_n C dL_law_328 rfl 3 rfl ?_
  refine z_iconst (v := 4) C dL_law_329 (by decide) ?_
  refine z_iadd C dL_law_330 ?_
  refine z_sld C hX hbl hbA h4 dL_law_331 ?_
  refine z_aload_n C dL_law_332 rfl 0 rfl ?_
  refine z_iload_n C dL_law_333 rfl 3 rfl ?_
  refine z_iconst (v := 5) C dL_law_334 (by decide) ?_
  refine z_iadd C dL_law_335 ?_
  refine z_sld C hX hbl hbA h5 dL_law_336 ?_
  refine z_Vi (As := [.int (xs (zn (x3 + 1))), .int (xs (zn (x3 + 2))), .int (xs (zn (x3 + 3))), .int (xs (zn (x3 + 4))), .int (xs (zn (x3 + 5)))]) C (wT g ma ha bd u1) (wR g ra r) [] (by rw [List.append_nil]) (c_X8_flow l g ra r (xs (zn (x3 + 1))) (xs (zn (x3 + 2))) (xs (zn (x3 + 3))) (xs (zn (x3 + 4))) (xs (zn (x3 + 5))) _ h) v_X8_flow mlL_27 8 (q := (RX8, TX8, 20)) rfl rfl 0 rfl ⟨Nat.le_of_ble_eq_true rfl, Nat.le_of_ble_eq_true rfl⟩ ⟨hk, hn⟩ (Nat.le_of_ble_eq_true rfl) rfl dL_law_337 (fun r2 v1 h => ?_)
  refine z_ws (ws1 := wT g ma ha bd u1 ++ wR g ra v1) (by rw [List.append_nil]) ?_
  exact z_icmp_eq C dL_law_340 (tgt := 1460) (by decide) (fun _ => K u1 v1 h.2) (fun hc => absurd h.1 hc)
/-- table: both answer alike, and stay alike -/
def pX_table (Rel Rel1 : TS → RS → Prop) : Prop := ∀ (u : TS) (r : RS) (a1 a2 : Int32), Rel u r → wp_X7_table u a1 a2 (fun x u1 => wp_X8_table r a1 a2 (fun y r1 => x = y ∧ Rel1 u1 r1))
set_option maxRecDepth 20000 in
theorem law_3 (C : zCL p s m b meth c g) (hX : va_X b L xs s s.heap) (hbl : b < s.heap.size) (hbA : ¬ AL s b) {Rel Rel1 : TS → RS → Prop} {u : TS} {r : RS} {x3 : Int32} {k n : Nat} (h1 : vp_in (x3 + 1) L) (h2 : vp_in (x3 + 2) L) (h3 : vp_in (x3 + 3) L) (h4 : vp_in (x3 + 4) L) (h5 : vp_in (x3 + 5) L) (hk : k + 26 ≤ 600000) (hn : n + 1308 ≤ 7302250) (h : pX_table Rel Rel1) (hr : Rel u r) (K : ∀ (u1 : TS) (v1 : RS), Rel1 u1 v1 → jL p l e s m below meth c g b ma ha ra bd u1 v1 x3 (k + 26) (n + 1308) 1460 []) : jL p l e s m below meth c g b ma ha ra bd u r x3 k n 345 [] := by
  have h := h u r (xs (zn (x3 + 1))) (xs (zn (x3 + 2))) hr
  refine z_aload_n C dL_law_345 rfl 1 rfl ?_
  refine z_aload_n C dL_law_346 rfl 0 rfl ?_
  refine z_iload_n C dL_law_347 rfl 3 rfl ?_
  refine z_iconst (v := 1) C dL_law_348 (by decide) ?_
  refine z_iadd C dL_law_349 ?_
  refine z_sld C hX hbl hbA h1 dL_law_350 ?_
  refine z_aload_n C dL_law_351 rfl 0 rfl ?_
  refine z_iload_n C dL_law_352 rfl 3 rfl ?_
  refine z_iconst (v := 2) C dL_law_353 (by decide) ?_
  refine z_iadd C dL_law_354 ?_
  refine z_sld C hX hbl hbA h2 dL_law_355 ?_
  refine z_Vi (As := [.int (xs (zn (x3 + 1))), .int (xs (zn (x3 + 2)))]) C [] (wT g ma ha bd u) (wR g ra r) rfl (c_X7_table l g ma ha bd u (xs (zn (x3 + 1))) (xs (zn (x3 + 2))) _ h) v_X7_table mlL_28 7 (q := (RX7, TX7, 7)) rfl rfl 0 rfl ⟨Nat.le_of_ble_eq_true rfl, Nat.le_of_ble_eq_true rfl⟩ ⟨hk, hn⟩ (Nat.le_of_ble_eq_true rfl) rfl dL_law_356 (fun r1 u1 h => ?_)
  refine z_ws (ws1 := wT g ma ha bd u1 ++ wR g ra r) rfl ?_
  refine z_aload_n C dL_law_359 rfl 2 rfl ?_
  refine z_aload_n C dL_law_360 rfl 0 rfl ?_
  refine z_iload_n C dL_law_361 rfl 3 rfl ?_
  refine z_iconst (v := 1) C dL_law_362 (by decide) ?_
  refine z_iadd C dL_law_363 ?_
  refine z_sld C hX hbl hbA h1 dL_law_364 ?_
  refine z_aload_n C dL_law_365 rfl 0 rfl ?_
  refine z_iload_n C dL_law_366 rfl 3 rfl ?_
  refine z_iconst (v := 2) C dL_law_367 (by decide) ?_
  refine z_iadd C dL_law_368 ?_
  refine z_sld C hX hbl hbA h2 dL_law_369 ?_
  refine z_Vi (As := [.int (xs (zn (x3 + 1))), .int (xs (zn (x3 + 2)))]) C (wT g ma ha bd u1) (wR g ra r) [] (by rw [List.append_nil]) (c_X8_table l g ra r (xs (zn (x3 + 1))) (xs (zn (x3 + 2))) _ h) v_X8_table mlL_32 8 (q := (RX8, TX8, 20)) rfl rfl 0 rfl ⟨Nat.le_of_ble_eq_true rfl, Nat.le_of_ble_eq_true rfl⟩ ⟨hk, hn⟩ (Nat.le_of_ble_eq_true rfl) rfl dL_law_370 (fun r2 v1 h => ?_)
  refine z_ws (ws1 := wT g ma ha bd u1 ++ wR g ra v1) (by rw [List.append_nil]) ?_
  exact z_icmp_eq C dL_law_373 (tgt := 1460) (by decide) (fun _ => K u1 v1 h.2) (fun hc => absurd h.1 hc)
/-- balance: both answer alike, and stay alike -/
def pX_balance (Rel Rel1 : TS → RS → Prop) : Prop := ∀ (u : TS) (r : RS), Rel u r → wp_X7_balance u (fun x u1 => wp_X8_balance r (fun y r1 => x = y ∧ Rel1 u1 r1))
set_option maxRecDepth 20000 in
theorem law_4 (C : zCL p s m b meth c g) (hX : va_X b L xs s s.heap) (hbl : b < s.heap.size) (hbA : ¬ AL s b) {Rel Rel1 : TS → RS → Prop} {u : TS} {r : RS} {x3 : Int32} {k n : Nat} (h1 : vp_in (x3 + 1) L) (h2 : vp_in (x3 + 2) L) (h3 : vp_in (x3 + 3) L) (h4 : vp_in (x3 + 4) L) (h5 : vp_in (x3 + 5) L) (hk : k + 26 ≤ 600000) (hn : n + 1308 ≤ 7302250) (h : pX_balance Rel Rel1) (hr : Rel u r) (K : ∀ (u1 : TS) (v1 : RS), Rel1 u1 v1 → jL p l e s m below meth c g b ma ha ra bd u1 v1 x3 (k + 26) (n + 1308) 1460 []) : jL p l e s m below meth c g b ma ha ra bd u r x3 k n 378 [] := by
  have h := h u r hr
  refine z_aload_n C dL_law_378 rfl 1 rfl ?_
  refine z_Vi (As := []) C [] (wT g ma ha bd u) (wR g ra r) rfl (c_X7_balance l g ma ha bd u _ h) v_X7_balance mlL_33 7 (q := (RX7, TX7, 7)) rfl rfl 0 rfl ⟨Nat.le_of_ble_eq_true rfl, Nat.le_of_ble_eq_true rfl⟩ ⟨hk, hn⟩ (Nat.le_of_ble_eq_true rfl) rfl dL_law_379 (fun r1 u1 h => ?_)
  refine z_ws (ws1 := wT g ma ha bd u1 ++ wR g ra r) rfl ?_
  refine z_aload_n C dL_law_382 rfl 2 rfl ?_
  refine z_Vi (As := []) C (wT g ma ha bd u1) (wR g ra r) [] (by rw [List.append_nil]) (c_X8_balance l g ra r _ h) v_X8_balance mlL_37 8 (q := (RX8, TX8, 20)) rfl rfl 0 rfl ⟨Nat.le_of_ble_eq_true rfl, Nat.le_of_ble_eq_true rfl⟩ ⟨hk, hn⟩ (Nat.le_of_ble_eq_true rfl) rfl dL_law_383 (fun r2 v1 h => ?_)
  refine z_ws (ws1 := wT g ma ha bd u1 ++ wR g ra v1) (by rw [List.append_nil]) ?_
  exact z_icmp_eq C dL_law_386 (tgt := 1460) (by decide) (fun _ => K u1 v1 h.2) (fun hc => absurd h.1 hc)
/-- reads: both answer alike, and stay alike -/
def pX_reads (Rel Rel1 : TS → RS → Prop) : Prop := ∀ (u : TS) (r : RS) (a1 a2 : Int32), Rel u r → wp_X7_reads u a1 a2 (fun x u1 => wp_X8_reads r a1 a2 (fun y r1 => x = y ∧ Rel1 u1 r1))
set_option maxRecDepth 20000 in
theorem law_5 (C : zCL p s m b meth c g) (hX : va_X b L xs s s.heap) (hbl : b < s.heap.size) (hbA : ¬ AL s b) {Rel Rel1 : TS → RS → Prop} {u : TS} {r : RS} {x3 : Int32} {k n : Nat} (h1 : vp_in (x3 + 1) L) (h2 : vp_in (x3 + 2) L) (h3 : vp_in (x3 + 3) L) (h4 : vp_in (x3 + 4) L) (h5 : vp_in (x3 + 5) L) (hk : k + 26 ≤ 600000) (hn : n + 1308 ≤ 7302250) (h : pX_reads Rel Rel1) (hr : Rel u r) (K : ∀ (u1 : TS) (v1 : RS), Rel1 u1 v1 → jL p l e s m below meth c g b ma ha ra bd u1 v1 x3 (k + 26) (n + 1308) 1460 []) : jL p l e s m below meth c g b ma ha ra bd u r x3 k n 391 [] := by
  have h := h u r (xs (zn (x3 + 1))) (xs (zn (x3 + 2))) hr
  refine z_aload_n C dL_law_391 rfl 1 rfl ?_
  refine z_aload_n C dL_law_392 rfl 0 rfl ?_
  refine z_iload_n C dL_law_393 rfl 3 rfl ?_
  refine z_iconst (v := 1) C dL_law_394 (by decide) ?_
  refine z_iadd C dL_law_395 ?_
  refine z_sld C hX hbl hbA h1 dL_law_396 ?_
  refine z_aload_n C dL_law_397 rfl 0 rfl ?_
  refine z_iload_n C dL_law_398 rfl 3 rfl ?_
  refine z_iconst (v := 2) C dL_law_399 (by decide) ?_
  refine z_iadd C dL_law_400 ?_
  refine z_sld C hX hbl hbA h2 dL_law_401 ?_
  refine z_Vi (As := [.int (xs (zn (x3 + 1))), .int (xs (zn (x3 + 2)))]) C [] (wT g ma ha bd u) (wR g ra r) rfl (c_X7_reads l g ma ha bd u (xs (zn (x3 + 1))) (xs (zn (x3 + 2))) _ h) v_X7_reads mlL_38 7 (q := (RX7, TX7, 7)) rfl rfl 0 rfl ⟨Nat.le_of_ble_eq_true rfl, Nat.le_of_ble_eq_true rfl⟩ ⟨hk, hn⟩ (Nat.le_of_ble_eq_true rfl) rfl dL_law_402 (fun r1 u1 h => ?_)
  refine z_ws (ws1 := wT g ma ha bd u1 ++ wR g ra r) rfl ?_
  refine z_aload_n C dL_law_405 rfl 2 rfl ?_
  refine z_aload_n C dL_law_406 rfl 0 rfl ?_
  refine z_iload_n C dL_law_407 rfl 3 rfl ?_
  refine z_iconst (v := 1) C dL_law_408 (by decide) ?_
  refine z_iadd C dL_law_409 ?_
  refine z_sld C hX hbl hbA h1 dL_law_410 ?_
  refine z_aload_n C dL_law_411 rfl 0 rfl ?_
  refine z_iload_n C dL_law_412 rfl 3 rfl ?_
  refine z_iconst (v := 2) C dL_law_413 (by decide) ?_
  refine z_iadd C dL_law_414 ?_
  refine z_sld C hX hbl hbA h2 dL_law_415 ?_
  refine z_Vi (As := [.int (xs (zn (x3 + 1))), .int (xs (zn (x3 + 2)))]) C (wT g ma ha bd u1) (wR g ra r) [] (by rw [List.append_nil]) (c_X8_reads l g ra r (xs (zn (x3 + 1))) (xs (zn (x3 + 2))) _ h) v_X8_reads mlL_41 8 (q := (RX8, TX8, 20)) rfl rfl 0 rfl ⟨Nat.le_of_ble_eq_true rfl, Nat.le_of_ble_eq_true rfl⟩ ⟨hk, hn⟩ (Nat.le_of_ble_eq_true rfl) rfl dL_law_416 (fun r2 v1 h => ?_)
  refine z_ws (ws1 := wT g ma ha bd u1 ++ wR g ra v1) (by rw [List.append_nil]) ?_
  exact z_icmp_eq C dL_law_419 (tgt := 1460) (by decide) (fun _ => K u1 v1 h.2) (fun hc => absurd h.1 hc)
/-- retire: both answer alike, and stay alike -/
def pX_retire (Rel Rel1 : TS → RS → Prop) : Prop := ∀ (u : TS) (r : RS) (a1 : Int32), Rel u r → wp_X7_retire u a1 (fun x u1 => wp_X8_retire r a1 (fun y r1 => x = y ∧ Rel1 u1 r1))
set_option maxRecDepth 20000 in
theorem law_6 (C : zCL p s m b meth c g) (hX : va_X b L xs s s.heap) (hbl : b < s.heap.size) (hbA : ¬ AL s b) {Rel Rel1 : TS → RS → Prop} {u : TS} {r : RS} {x3 : Int32} {k n : Nat} (h1 : vp_in (x3 + 1) L) (h2 : vp_in (x3 + 2) L) (h3 : vp_in (x3 + 3) L) (h4 : vp_in (x3 + 4) L) (h5 : vp_in (x3 + 5) L) (hk : k + 26 ≤ 600000) (hn : n + 1308 ≤ 7302250) (h : pX_retire Rel Rel1) (hr : Rel u r) (K : ∀ (u1 : TS) (v1 : RS), Rel1 u1 v1 → jL p l e s m below meth c g b ma ha ra bd u1 v1 x3 (k + 26) (n + 1308) 1460 []) : jL p l e s m below meth c g b ma ha ra bd u r x3 k n 424 [] := by
  have h := h u r (xs (zn (x3 + 1))) hr
  refine z_aload_n C dL_law_424 rfl 1 rfl ?_
  refine z_aload_n C dL_law_425 rfl 0 rfl ?_
  refine z_iload_n C dL_law_426 rfl 3 rfl ?_
  refine z_iconst (v := 1) C dL_law_427 (by decide) ?_
  refine z_iadd C dL_law_428 ?_
  refine z_sld C hX hbl hbA h1 dL_law_429 ?_
  refine z_Vi (As := [.int (xs (zn (x3 + 1)))]) C [] (wT g ma ha bd u) (wR g ra r) rfl (c_X7_retire l g ma ha bd u (xs (zn (x3 + 1))) _ h) v_X7_retire mlL_42 7 (q := (RX7, TX7, 7)) rfl rfl 0 rfl ⟨Nat.le_of_ble_eq_true rfl, Nat.le_of_ble_eq_true rfl⟩ ⟨hk, hn⟩ (Nat.le_of_ble_eq_true rfl) rfl dL_law_430 (fun r1 u1 h => ?_)
  refine z_ws (ws1 := wT g ma ha bd u1 ++ wR g ra r) rfl ?_
  refine z_aload_n C dL_law_433 rfl 2 rfl ?_
  refine z_aload_n C dL_law_434 rfl 0 rfl ?_
  refine z_iload_n C dL_law_435 rfl 3 rfl ?_
  refine z_iconst (v := 1) C dL_law_436 (by decide) ?_
  refine z_iadd C dL_law_437 ?_
  refine z_sld C hX hbl hbA h1 dL_law_438 ?_
  refine z_Vi (As := [.int (xs (zn (x3 + 1)))]) C (wT g ma ha bd u1) (wR g ra r) [] (by rw [List.append_nil]) (c_X8_retire l g ra r (xs (zn (x3 + 1))) _ h) v_X8_retire mlL_45 8 (q := (RX8, TX8, 20)) rfl rfl 0 rfl ⟨Nat.le_of_ble_eq_true rfl, Nat.le_of_ble_eq_true rfl⟩ ⟨hk, hn⟩ (Nat.le_of_ble_eq_true rfl) rfl dL_law_439 (fun r2 v1 h => ?_)
  refine z_ws (ws1 := wT g ma ha bd u1 ++ wR g ra v1) (by rw [List.append_nil]) ?_
  exact z_icmp_eq C dL_law_442 (tgt := 1460) (by decide) (fun _ => K u1 v1 h.2) (fun hc => absurd h.1 hc)
/-- steer: both answer alike, and stay alike -/
def pX_steer (Rel Rel1 : TS → RS → Prop) : Prop := ∀ (u : TS) (r : RS) (a1 a2 : Int32), Rel u r → wp_X7_steer u a1 a2 (fun x u1 => wp_X8_steer r a1 a2 (fun y r1 => x = y ∧ Rel1 u1 r1))
set_option maxRecDepth 20000 in
theorem law_7 (C : zCL p s m b meth c g) (hX : va_X b L xs s s.heap) (hbl : b < s.heap.size) (hbA : ¬ AL s b) {Rel Rel1 : TS → RS → Prop} {u : TS} {r : RS} {x3 : Int32} {k n : Nat} (h1 : vp_in (x3 + 1) L) (h2 : vp_in (x3 + 2) L) (h3 : vp_in (x3 + 3) L) (h4 : vp_in (x3 + 4) L) (h5 : vp_in (x3 + 5) L) (hk : k + 26 ≤ 600000) (hn : n + 1308 ≤ 7302250) (h : pX_steer Rel Rel1) (hr : Rel u r) (K : ∀ (u1 : TS) (v1 : RS), Rel1 u1 v1 → jL p l e s m below meth c g b ma ha ra bd u1 v1 x3 (k + 26) (n + 1308) 1460 []) : jL p l e s m below meth c g b ma ha ra bd u r x3 k n 447 [] := by
  have h := h u r (xs (zn (x3 + 1))) (xs (zn (x3 + 2))) hr
  refine z_aload_n C dL_law_447 rfl 1 rfl ?_
  refine z_aload_n C dL_law_448 rfl 0 rfl ?_
  refine z_iload_n C dL_law_449 rfl 3 rfl ?_
  refine z_iconst (v := 1) C dL_law_450 (by decide) ?_
  refine z_iadd C dL_law_451 ?_
  refine z_sld C hX hbl hbA h1 dL_law_452 ?_
  refine z_aload_n C dL_law_453 rfl 0 rfl ?_
  refine z_iload_n C dL_law_454 rfl 3 rfl ?_
  refine z_iconst (v := 2) C dL_law_455 (by decide) ?_
  refine z_iadd C dL_law_456 ?_
  refine z_sld C hX hbl hbA h2 dL_law_457 ?_
  refine z_Vi (As := [.int (xs (zn (x3 + 1))), .int (xs (zn (x3 + 2)))]) C [] (wT g ma ha bd u) (wR g ra r) rfl (c_X7_steer l g ma ha bd u (xs (zn (x3 + 1))) (xs (zn (x3 + 2))) _ h) v_X7_steer mlL_46 7 (q := (RX7, TX7, 7)) rfl rfl 0 rfl ⟨Nat.le_of_ble_eq_true rfl, Nat.le_of_ble_eq_true rfl⟩ ⟨hk, hn⟩ (Nat.le_of_ble_eq_true rfl) rfl dL_law_458 (fun r1 u1 h => ?_)
  refine z_ws (ws1 := wT g ma ha bd u1 ++ wR g ra r) rfl ?_
  refine z_aload_n C dL_law_461 rfl 2 rfl ?_
  refine z_aload_n C dL_law_462 rfl 0 rfl ?_
  refine z_iload_n C dL_law_463 rfl 3 rfl ?_
  refine z_iconst (v := 1) C dL_law_464 (by decide) ?_
  refine z_iadd C dL_law_465 ?_
  refine z_sld C hX hbl hbA h1 dL_law_466 ?_
  refine z_aload_n C dL_law_467 rfl 0 rfl ?_
  refine z_iload_n C dL_law_468 rfl 3 rfl ?_
  refine z_iconst (v := 2) C dL_law_469 (by decide) ?_
  refine z_iadd C dL_law_470 ?_
  refine z_sld C hX hbl hbA h2 dL_law_471 ?_
  refine z_Vi (As := [.int (xs (zn (x3 + 1))), .int (xs (zn (x3 + 2)))]) C (wT g ma ha bd u1) (wR g ra r) [] (by rw [List.append_nil]) (c_X8_steer l g ra r (xs (zn (x3 + 1))) (xs (zn (x3 + 2))) _ h) v_X8_steer mlL_49 8 (q := (RX8, TX8, 20)) rfl rfl 0 rfl ⟨Nat.le_of_ble_eq_true rfl, Nat.le_of_ble_eq_true rfl⟩ ⟨hk, hn⟩ (Nat.le_of_ble_eq_true rfl) rfl dL_law_472 (fun r2 v1 h => ?_)
  refine z_ws (ws1 := wT g ma ha bd u1 ++ wR g ra v1) (by rw [List.append_nil]) ?_
  exact z_icmp_eq C dL_law_475 (tgt := 1460) (by decide) (fun _ => K u1 v1 h.2) (fun hc => absurd h.1 hc)
/-- free: both answer alike, and stay alike -/
def pX_free (Rel Rel1 : TS → RS → Prop) : Prop := ∀ (u : TS) (r : RS) (a1 : Int32), Rel u r → wp_X7_free u a1 (fun x u1 => wp_X8_free r a1 (fun y r1 => x = y ∧ Rel1 u1 r1))
set_option maxRecDepth 20000 in
theorem law_8 (C : zCL p s m b meth c g) (hX : va_X b L xs s s.heap) (hbl : b < s.heap.size) (hbA : ¬ AL s b) {Rel Rel1 : TS → RS → Prop} {u : TS} {r : RS} {x3 : Int32} {k n : Nat} (h1 : vp_in (x3 + 1) L) (h2 : vp_in (x3 + 2) L) (h3 : vp_in (x3 + 3) L) (h4 : vp_in (x3 + 4) L) (h5 : vp_in (x3 + 5) L) (hk : k + 26 ≤ 600000) (hn : n + 1308 ≤ 7302250) (h : pX_free Rel Rel1) (hr : Rel u r) (K : ∀ (u1 : TS) (v1 : RS), Rel1 u1 v1 → jL p l e s m below meth c g b ma ha ra bd u1 v1 x3 (k + 26) (n + 1308) 1460 []) : jL p l e s m below meth c g b ma ha ra bd u r x3 k n 480 [] := by
  have h := h u r (xs (zn (x3 + 1))) hr
  refine z_aload_n C dL_law_480 rfl 1 rfl ?_
  refine z_aload_n C dL_law_481 rfl 0 rfl ?_
  refine z_iload_n C dL_law_482 rfl 3 rfl ?_
  refine z_iconst (v := 1) C dL_law_483 (by decide) ?_
  refine z_iadd C dL_law_484 ?_
  refine z_sld C hX hbl hbA h1 dL_law_485 ?_
  refine z_Vi (As := [.int (xs (zn (x3 + 1)))]) C [] (wT g ma ha bd u) (wR g ra r) rfl (c_X7_free l g ma ha bd u (xs (zn (x3 + 1))) _ h) v_X7_free mlL_50 7 (q := (RX7, TX7, 7)) rfl rfl 0 rfl ⟨Nat.le_of_ble_eq_true rfl, Nat.le_of_ble_eq_true rfl⟩ ⟨hk, hn⟩ (Nat.le_of_ble_eq_true rfl) rfl dL_law_486 (fun r1 u1 h => ?_)
  refine z_ws (ws1 := wT g ma ha bd u1 ++ wR g ra r) rfl ?_
  refine z_aload_n C dL_law_489 rfl 2 rfl ?_
  refine z_aload_n C dL_law_490 rfl 0 rfl ?_
  refine z_iload_n C dL_law_491 rfl 3 rfl ?_
  refine z_iconst (v := 1) C dL_law_492 (by decide) ?_
  refine z_iadd C dL_law_493 ?_
  refine z_sld C hX hbl hbA h1 dL_law_494 ?_
  refine z_Vi (As := [.int (xs (zn (x3 + 1)))]) C (wT g ma ha bd u1) (wR g ra r) [] (by rw [List.append_nil]) (c_X8_free l g ra r (xs (zn (x3 + 1))) _ h) v_X8_free mlL_53 8 (q := (RX8, TX8, 20)) rfl rfl 0 rfl ⟨Nat.le_of_ble_eq_true rfl, Nat.le_of_ble_eq_true rfl⟩ ⟨hk, hn⟩ (Nat.le_of_ble_eq_true rfl) rfl dL_law_495 (fun r2 v1 h => ?_)
  refine z_ws (ws1 := wT g ma ha bd u1 ++ wR g ra v1) (by rw [List.append_nil]) ?_
  exact z_icmp_eq C dL_law_498 (tgt := 1460) (by decide) (fun _ => K u1 v1 h.2) (fun hc => absurd h.1 hc)
/-- terms: both answer alike, and stay alike -/
def pX_terms (Rel Rel1 : TS → RS → Prop) : Prop := ∀ (u : TS) (r : RS) (a1 a2 : Int32), Rel u r → wp_X7_terms u a1 a2 (fun x u1 => wp_X8_terms r a1 a2 (fun y r1 => x = y ∧ Rel1 u1 r1))
set_option maxRecDepth 20000 in
theorem law_9 (C : zCL p s m b meth c g) (hX : va_X b L xs s s.heap) (hbl : b < s.heap.size) (hbA : ¬ AL s b) {Rel Rel1 : TS → RS → Prop} {u : TS} {r : RS} {x3 : Int32} {k n : Nat} (h1 : vp_in (x3 + 1) L) (h2 : vp_in (x3 + 2) L) (h3 : vp_in (x3 + 3) L) (h4 : vp_in (x3 + 4) L) (h5 : vp_in (x3 + 5) L) (hk : k + 26 ≤ 600000) (hn : n + 1308 ≤ 7302250) (h : pX_terms Rel Rel1) (hr : Rel u r) (K : ∀ (u1 : TS) (v1 : RS), Rel1 u1 v1 → jL p l e s m below meth c g b ma ha ra bd u1 v1 x3 (k + 26) (n + 1308) 1460 []) : jL p l e s m below meth c g b ma ha ra bd u r x3 k n 503 [] := by
  have h := h u r (xs (zn (x3 + 1))) (xs (zn (x3 + 2))) hr
  refine z_aload_n C dL_law_503 rfl 1 rfl ?_
  refine z_aload_n C dL_law_504 rfl 0 rfl ?_
  refine z_iload_n C dL_law_505 rfl 3 rfl ?_
  refine z_iconst (v := 1) C dL_law_506 (by decide) ?_
  refine z_iadd C dL_law_507 ?_
  refine z_sld C hX hbl hbA h1 dL_law_508 ?_
  refine z_aload_n C dL_law_509 rfl 0 rfl ?_
  refine z_iload_n C dL_law_510 rfl 3 rfl ?_
  refine z_iconst (v := 2) C dL_law_511 (by decide) ?_
  refine z_iadd C dL_law_512 ?_
  refine z_sld C hX hbl hbA h2 dL_law_513 ?_
  refine z_Vi (As := [.int (xs (zn (x3 + 1))), .int (xs (zn (x3 + 2)))]) C [] (wT g ma ha bd u) (wR g ra r) rfl (c_X7_terms l g ma ha bd u (xs (zn (x3 + 1))) (xs (zn (x3 + 2))) _ h) v_X7_terms mlL_54 7 (q := (RX7, TX7, 7)) rfl rfl 0 rfl ⟨Nat.le_of_ble_eq_true rfl, Nat.le_of_ble_eq_true rfl⟩ ⟨hk, hn⟩ (Nat.le_of_ble_eq_true rfl) rfl dL_law_514 (fun r1 u1 h => ?_)
  refine z_ws (ws1 := wT g ma ha bd u1 ++ wR g ra r) rfl ?_
  refine z_aload_n C dL_law_517 rfl 2 rfl ?_
  refine z_aload_n C dL_law_518 rfl 0 rfl ?_
  refine z_iload_n C dL_law_519 rfl 3 rfl ?_
  refine z_iconst (v := 1) C dL_law_520 (by decide) ?_
  refine z_iadd C dL_law_521 ?_
  refine z_sld C hX hbl hbA h1 dL_law_522 ?_
  refine z_aload_n C dL_law_523 rfl 0 rfl ?_
  refine z_iload_n C dL_law_524 rfl 3 rfl ?_
  refine z_iconst (v := 2) C dL_law_525 (by decide) ?_
  refine z_iadd C dL_law_526 ?_
  refine z_sld C hX hbl hbA h2 dL_law_527 ?_
  refine z_Vi (As := [.int (xs (zn (x3 + 1))), .int (xs (zn (x3 + 2)))]) C (wT g ma ha bd u1) (wR g ra r) [] (by rw [List.append_nil]) (c_X8_terms l g ra r (xs (zn (x3 + 1))) (xs (zn (x3 + 2))) _ h) v_X8_terms mlL_57 8 (q := (RX8, TX8, 20)) rfl rfl 0 rfl ⟨Nat.le_of_ble_eq_true rfl, Nat.le_of_ble_eq_true rfl⟩ ⟨hk, hn⟩ (Nat.le_of_ble_eq_true rfl) rfl dL_law_528 (fun r2 v1 h => ?_)
  refine z_ws (ws1 := wT g ma ha bd u1 ++ wR g ra v1) (by rw [List.append_nil]) ?_
  exact z_icmp_eq C dL_law_531 (tgt := 1460) (by decide) (fun _ => K u1 v1 h.2) (fun hc => absurd h.1 hc)
/-- packet: both answer alike, and stay alike -/
def pX_packet (Rel Rel1 : TS → RS → Prop) : Prop := ∀ (u : TS) (r : RS) (a1 a2 a3 : Int32), Rel u r → (a3 = 0 → wp_X7_packet u a1 a2 0 (fun x u1 => wp_X8_packet r a1 a2 0 (fun y r1 => x = y ∧ Rel1 u1 r1))) ∧ (¬ a3 = 0 → wp_X7_packet u a1 a2 1 (fun x u1 => wp_X8_packet r a1 a2 1 (fun y r1 => x = y ∧ Rel1 u1 r1)))
set_option maxRecDepth 20000 in
theorem law_10 (C : zCL p s m b meth c g) (hX : va_X b L xs s s.heap) (hbl : b < s.heap.size) (hbA : ¬ AL s b) {Rel Rel1 : TS → RS → Prop} {u : TS} {r : RS} {x3 : Int32} {k n : Nat} (h1 : vp_in (x3 + 1) L) (h2 : vp_in (x3 + 2) L) (h3 : vp_in (x3 + 3) L) (h4 : vp_in (x3 + 4) L) (h5 : vp_in (x3 + 5) L) (hk : k + 26 ≤ 600000) (hn : n + 1308 ≤ 7302250) (h : pX_packet Rel Rel1) (hr : Rel u r) (K : ∀ (u1 : TS) (v1 : RS), Rel1 u1 v1 → jL p l e s m below meth c g b ma ha ra bd u1 v1 x3 (k + 26) (n + 1308) 1460 []) : jL p l e s m below meth c g b ma ha ra bd u r x3 k n 536 [] := by
  have h := h u r (xs (zn (x3 + 1))) (xs (zn (x3 + 2))) (xs (zn (x3 + 3))) hr
  by_cases hz : xs (zn (x3 + 3)) = 0
  · have h := h.1 hz
    refine z_aload_n C dL_law_536 rfl 1 rfl ?_
    refine z_aload_n C dL_law_537 rfl 0 rfl ?_
    refine z_iload_n C dL_law_538 rfl 3 rfl ?_
    refine z_iconst (v := 1) C dL_law_539 (by decide) ?_
    refine z_iadd C dL_law_540 ?_
    refine z_sld C hX hbl hbA h1 dL_law_541 ?_
    refine z_aload_n C dL_law_542 rfl 0 rfl ?_
    refine z_iload_n C dL_law_543 rfl 3 rfl ?_
    refine z_iconst (v := 2) C dL_law_544 (by decide) ?_
    refine z_iadd C dL_law_545 ?_
    refine z_sld C hX hbl hbA h2 dL_law_546 ?_
    refine z_aload_n C dL_law_547 rfl 0 rfl ?_
    refine z_iload_n C dL_law_548 rfl 3 rfl ?_
    refine z_iconst (v := 3) C dL_law_549 (by decide) ?_
    refine z_iadd C dL_law_550 ?_
    refine z_sld C hX hbl hbA h3 dL_law_551 ?_
    refine z_if_eq C dL_law_552 (tgt := 559) (by decide) (fun _ => ?_) (fun hc => absurd hz hc)
    refine z_iconst (v := 0) C dL_law_559 (by decide) ?_
    refine z_Vi (As := [.int (xs (zn (x3 + 1))), .int (xs (zn (x3 + 2))), .int 0]) C [] (wT g ma ha bd u) (wR g ra r) rfl (c_X7_packet l g ma ha bd u (xs (zn (x3 + 1))) (xs (zn (x3 + 2))) 0 _ h) v_X7_packet mlL_58 7 (q := (RX7, TX7, 7)) rfl rfl 0 rfl ⟨Nat.le_of_ble_eq_true rfl, Nat.le_of_ble_eq_true rfl⟩ ⟨hk, hn⟩ (Nat.le_of_ble_eq_true rfl) rfl dL_law_560 (fun r1 u1 h => ?_)
    refine z_ws (ws1 := wT g ma ha bd u1 ++ wR g ra r) rfl ?_
    refine z_aload_n C dL_law_563 rfl 2 rfl ?_
    refine z_aload_n C dL_law_564 rfl 0 rfl ?_
    refine z_iload_n C dL_law_565 rfl 3 rfl ?_
    refine z_iconst (v := 1) C dL_law_566 (by decide) ?_
    refine z_iadd C dL_law_567 ?_
    refine z_sld C hX hbl hbA h1 dL_law_568 ?_
    refine z_aload_n C dL_law_569 rfl 0 rfl ?_
    refine z_iload_n C dL_law_570 rfl 3 rfl ?_
    refine z_iconst (v := 2) C dL_law_571 (by decide) ?_
    refine z_iadd C dL_law_572 ?_
    refine z_sld C hX hbl hbA h2 dL_law_573 ?_
    refine z_aload_n C dL_law_574 rfl 0 rfl ?_
    refine z_iload_n C dL_law_575 rfl 3 rfl ?_
    refine z_iconst (v := 3) C dL_law_576 (by decide) ?_
    refine z_iadd C dL_law_577 ?_
    refine z_sld C hX hbl hbA h3 dL_law_578 ?_
    refine z_if_eq C dL_law_579 (tgt := 586) (by decide) (fun _ => ?_) (fun hc => absurd hz hc)
    refine z_iconst (v := 0) C dL_law_586 (by decide) ?_
    refine z_Vi (As := [.int (xs (zn (x3 + 1))), .int (xs (zn (x3 + 2))), .int 0]) C (wT g ma ha bd u1) (wR g ra r) [] (by rw [List.append_nil]) (c_X8_packet l g ra r (xs (zn (x3 + 1))) (xs (zn (x3 + 2))) 0 _ h) v_X8_packet mlL_62 8 (q := (RX8, TX8, 20)) rfl rfl 0 rfl ⟨Nat.le_of_ble_eq_true rfl, Nat.le_of_ble_eq_true rfl⟩ ⟨hk, hn⟩ (Nat.le_of_ble_eq_true rfl) rfl dL_law_587 (fun r2 v1 h => ?_)
    refine z_ws (ws1 := wT g ma ha bd u1 ++ wR g ra v1) (by rw [List.append_nil]) ?_
    exact z_icmp_eq C dL_law_590 (tgt := 1460) (by decide) (fun _ => K u1 v1 h.2) (fun hc => absurd h.1 hc)
  · have h := h.2 hz
    refine z_aload_n C dL_law_536 rfl 1 rfl ?_
    refine z_aload_n C dL_law_537 rfl 0 rfl ?_
    refine z_iload_n C dL_law_538 rfl 3 rfl ?_
    refine z_iconst (v := 1) C dL_law_539 (by decide) ?_
    refine z_iadd C dL_law_540 ?_
    refine z_sld C hX hbl hbA h1 dL_law_541 ?_
    refine z_aload_n C dL_law_542 rfl 0 rfl ?_
    refine z_iload_n C dL_law_543 rfl 3 rfl ?_
    refine z_iconst (v := 2) C dL_law_544 (by decide) ?_
    refine z_iadd C dL_law_545 ?_
    refine z_sld C hX hbl hbA h2 dL_law_546 ?_
    refine z_aload_n C dL_law_547 rfl 0 rfl ?_
    refine z_iload_n C dL_law_548 rfl 3 rfl ?_
    refine z_iconst (v := 3) C dL_law_549 (by decide) ?_
    refine z_iadd C dL_law_550 ?_
    refine z_sld C hX hbl hbA h3 dL_law_551 ?_
    refine z_if_eq C dL_law_552 (tgt := 559) (by decide) (fun hc => absurd hc hz) (fun _ => ?_)
    refine z_iconst (v := 1) C dL_law_555 (by decide) ?_
    refine z_goto C dL_law_556 (tgt := 560) (by decide) ?_
    refine z_Vi (As := [.int (xs (zn (x3 + 1))), .int (xs (zn (x3 + 2))), .int 1]) C [] (wT g ma ha bd u) (wR g ra r) rfl (c_X7_packet l g ma ha bd u (xs (zn (x3 + 1))) (xs (zn (x3 + 2))) 1 _ h) v_X7_packet mlL_58 7 (q := (RX7, TX7, 7)) rfl rfl 0 rfl ⟨Nat.le_of_ble_eq_true rfl, Nat.le_of_ble_eq_true rfl⟩ ⟨hk, hn⟩ (Nat.le_of_ble_eq_true rfl) rfl dL_law_560 (fun r1 u1 h => ?_)
    refine z_ws (ws1 := wT g ma ha bd u1 ++ wR g ra r) rfl ?_
    refine z_aload_n C dL_law_563 rfl 2 rfl ?_
    refine z_aload_n C dL_law_564 rfl 0 rfl ?_
    refine z_iload_n C dL_law_565 rfl 3 rfl ?_
    refine z_iconst (v := 1) C dL_law_566 (by decide) ?_
    refine z_iadd C dL_law_567 ?_
    refine z_sld C hX hbl hbA h1 dL_law_568 ?_
    refine z_aload_n C dL_law_569 rfl 0 rfl ?_
    refine z_iload_n C dL_law_570 rfl 3 rfl ?_
    refine z_iconst (v := 2) C dL_law_571 (by decide) ?_
    refine z_iadd C dL_law_572 ?_
    refine z_sld C hX hbl hbA h2 dL_law_573 ?_
    refine z_aload_n C dL_law_574 rfl 0 rfl ?_
    refine z_iload_n C dL_law_575 rfl 3 rfl ?_
    refine z_iconst (v := 3) C dL_law_576 (by decide) ?_
    refine z_iadd C dL_law_577 ?_
    refine z_sld C hX hbl hbA h3 dL_law_578 ?_
    refine z_if_eq C dL_law_579 (tgt := 586) (by decide) (fun hc => absurd hc hz) (fun _ => ?_)
    refine z_iconst (v := 1) C dL_law_582 (by decide) ?_
    refine z_goto C dL_law_583 (tgt := 587) (by decide) ?_
    refine z_Vi (As := [.int (xs (zn (x3 + 1))), .int (xs (zn (x3 + 2))), .int 1]) C (wT g ma ha bd u1) (wR g ra r) [] (by rw [List.append_nil]) (c_X8_packet l g ra r (xs (zn (x3 + 1))) (xs (zn (x3 + 2))) 1 _ h) v_X8_packet mlL_62 8 (q := (RX8, TX8, 20)) rfl rfl 0 rfl ⟨Nat.le_of_ble_eq_true rfl, Nat.le_of_ble_eq_true rfl⟩ ⟨hk, hn⟩ (Nat.le_of_ble_eq_true rfl) rfl dL_law_587 (fun r2 v1 h => ?_)
    refine z_ws (ws1 := wT g ma ha bd u1 ++ wR g ra v1) (by rw [List.append_nil]) ?_
    exact z_icmp_eq C dL_law_590 (tgt := 1460) (by decide) (fun _ => K u1 v1 h.2) (fun hc => absurd h.1 hc)
/-- burst: both answer alike, and stay alike -/
def pX_burst (Rel Rel1 : TS → RS → Prop) : Prop := ∀ (u : TS) (r : RS) (a1 a2 a3 : Int32), Rel u r → wp_X7_burst u a1 a2 a3 (fun x u1 => wp_X8_burst r a1 a2 a3 (fun y r1 => x = y ∧ Rel1 u1 r1))
set_option maxRecDepth 20000 in
theorem law_11 (C : zCL p s m b meth c g) (hX : va_X b L xs s s.heap) (hbl : b < s.heap.size) (hbA : ¬ AL s b) {Rel Rel1 : TS → RS → Prop} {u : TS} {r : RS} {x3 : Int32} {k n : Nat} (h1 : vp_in (x3 + 1) L) (h2 : vp_in (x3 + 2) L) (h3 : vp_in (x3 + 3) L) (h4 : vp_in (x3 + 4) L) (h5 : vp_in (x3 + 5) L) (hk : k + 26 ≤ 600000) (hn : n + 1308 ≤ 7302250) (h : pX_burst Rel Rel1) (hr : Rel u r) (K : ∀ (u1 : TS) (v1 : RS), Rel1 u1 v1 → jL p l e s m below meth c g b ma ha ra bd u1 v1 x3 (k + 26) (n + 1308) 1460 []) : jL p l e s m below meth c g b ma ha ra bd u r x3 k n 595 [] := by
  have h := h u r (xs (zn (x3 + 1))) (xs (zn (x3 + 2))) (xs (zn (x3 + 3))) hr
  refine z_aload_n C dL_law_595 rfl 1 rfl ?_
  refine z_aload_n C dL_law_596 rfl 0 rfl ?_
  refine z_iload_n C dL_law_597 rfl 3 rfl ?_
  refine z_iconst (v := 1) C dL_law_598 (by decide) ?_
  refine z_iadd C dL_law_599 ?_
  refine z_sld C hX hbl hbA h1 dL_law_600 ?_
  refine z_aload_n C dL_law_601 rfl 0 rfl ?_
  refine z_iload_n C dL_law_602 rfl 3 rfl ?_
  refine z_iconst (v := 2) C dL_law_603 (by decide) ?_
  refine z_iadd C dL_law_604 ?_
  refine z_sld C hX hbl hbA h2 dL_law_605 ?_
  refine z_aload_n C dL_law_606 rfl 0 rfl ?_
  refine z_iload_n C dL_law_607 rfl 3 rfl ?_
  refine z_iconst (v := 3) C dL_law_608 (by decide) ?_
  refine z_iadd C dL_law_609 ?_
  refine z_sld C hX hbl hbA h3 dL_law_610 ?_
  refine z_Vi (As := [.int (xs (zn (x3 + 1))), .int (xs (zn (x3 + 2))), .int (xs (zn (x3 + 3)))]) C [] (wT g ma ha bd u) (wR g ra r) rfl (c_X7_burst l g ma ha bd u (xs (zn (x3 + 1))) (xs (zn (x3 + 2))) (xs (zn (x3 + 3))) _ h) v_X7_burst mlL_63 7 (q := (RX7, TX7, 7)) rfl rfl 0 rfl ⟨Nat.le_of_ble_eq_true rfl, Nat.le_of_ble_eq_true rfl⟩ ⟨hk, hn⟩ (Nat.le_of_ble_eq_true rfl) rfl dL_law_611 (fun r1 u1 h => ?_)
  refine z_ws (ws1 := wT g ma ha bd u1 ++ wR g ra r) rfl ?_
  refine z_aload_n C dL_law_614 rfl 2 rfl ?_
  refine z_aload_n C dL_law_615 rfl 0 rfl ?_
  refine z_iload_n C dL_law_616 rfl 3 rfl ?_
  refine z_iconst (v := 1) C dL_law_617 (by decide) ?_
  refine z_iadd C dL_law_618 ?_
  refine z_sld C hX hbl hbA h1 dL_law_619 ?_
  refine z_aload_n C dL_law_620 rfl 0 rfl ?_
  refine z_iload_n C dL_law_621 rfl 3 rfl ?_
  refine z_iconst (v := 2) C dL_law_622 (by decide) ?_
  refine z_iadd C dL_law_623 ?_
  refine z_sld C hX hbl hbA h2 dL_law_624 ?_
  refine z_aload_n C dL_law_625 rfl 0 rfl ?_
  refine z_iload_n C dL_law_626 rfl 3 rfl ?_
  refine z_iconst (v := 3) C dL_law_627 (by decide) ?_
  refine z_iadd C dL_law_628 ?_
  refine z_sld C hX hbl hbA h3 dL_law_629 ?_
  refine z_Vi (As := [.int (xs (zn (x3 + 1))), .int (xs (zn (x3 + 2))), .int (xs (zn (x3 + 3)))]) C (wT g ma ha bd u1) (wR g ra r) [] (by rw [List.append_nil]) (c_X8_burst l g ra r (xs (zn (x3 + 1))) (xs (zn (x3 + 2))) (xs (zn (x3 + 3))) _ h) v_X8_burst mlL_66 8 (q := (RX8, TX8, 20)) rfl rfl 0 rfl ⟨Nat.le_of_ble_eq_true rfl, Nat.le_of_ble_eq_true rfl⟩ ⟨hk, hn⟩ (Nat.le_of_ble_eq_true rfl) rfl dL_law_630 (fun r2 v1 h => ?_)
  refine z_ws (ws1 := wT g ma ha bd u1 ++ wR g ra v1) (by rw [List.append_nil]) ?_
  exact z_icmp_eq C dL_law_633 (tgt := 1460) (by decide) (fun _ => K u1 v1 h.2) (fun hc => absurd h.1 hc)
/-- gap: both answer alike, and stay alike -/
def pX_gap (Rel Rel1 : TS → RS → Prop) : Prop := ∀ (u : TS) (r : RS) (a1 a2 : Int32), Rel u r → wp_X7_gap u a1 a2 (fun x u1 => wp_X8_gap r a1 a2 (fun y r1 => x = y ∧ Rel1 u1 r1))
set_option maxRecDepth 20000 in
theorem law_12 (C : zCL p s m b meth c g) (hX : va_X b L xs s s.heap) (hbl : b < s.heap.size) (hbA : ¬ AL s b) {Rel Rel1 : TS → RS → Prop} {u : TS} {r : RS} {x3 : Int32} {k n : Nat} (h1 : vp_in (x3 + 1) L) (h2 : vp_in (x3 + 2) L) (h3 : vp_in (x3 + 3) L) (h4 : vp_in (x3 + 4) L) (h5 : vp_in (x3 + 5) L) (hk : k + 26 ≤ 600000) (hn : n + 1308 ≤ 7302250) (h : pX_gap Rel Rel1) (hr : Rel u r) (K : ∀ (u1 : TS) (v1 : RS), Rel1 u1 v1 → jL p l e s m below meth c g b ma ha ra bd u1 v1 x3 (k + 26) (n + 1308) 1460 []) : jL p l e s m below meth c g b ma ha ra bd u r x3 k n 638 [] := by
  have h := h u r (xs (zn (x3 + 1))) (xs (zn (x3 + 2))) hr
  refine z_aload_n C dL_law_638 rfl 1 rfl ?_
  refine z_aload_n C dL_law_639 rfl 0 rfl ?_
  refine z_iload_n C dL_law_640 rfl 3 rfl ?_
  refine z_iconst (v := 1) C dL_law_641 (by decide) ?_
  refine z_iadd C dL_law_642 ?_
  refine z_sld C hX hbl hbA h1 dL_law_643 ?_
  refine z_aload_n C dL_law_644 rfl 0 rfl ?_
  refine z_iload_n C dL_law_645 rfl 3 rfl ?_
  refine z_iconst (v := 2) C dL_law_646 (by decide) ?_
  refine z_iadd C dL_law_647 ?_
  refine z_sld C hX hbl hbA h2 dL_law_648 ?_
  refine z_Vi (As := [.int (xs (zn (x3 + 1))), .int (xs (zn (x3 + 2)))]) C [] (wT g ma ha bd u) (wR g ra r) rfl (c_X7_gap l g ma ha bd u (xs (zn (x3 + 1))) (xs (zn (x3 + 2))) _ h) v_X7_gap mlL_67 7 (q := (RX7, TX7, 7)) rfl rfl 0 rfl ⟨Nat.le_of_ble_eq_true rfl, Nat.le_of_ble_eq_true rfl⟩ ⟨hk, hn⟩ (Nat.le_of_ble_eq_true rfl) rfl dL_law_649 (fun r1 u1 h => ?_)
  refine z_ws (ws1 := wT g ma ha bd u1 ++ wR g ra r) rfl ?_
  refine z_aload_n C dL_law_652 rfl 2 rfl ?_
  refine z_aload_n C dL_law_653 rfl 0 rfl ?_
  refine z_iload_n C dL_law_654 rfl 3 rfl ?_
  refine z_iconst (v := 1) C dL_law_655 (by decide) ?_
  refine z_iadd C dL_law_656 ?_
  refine z_sld C hX hbl hbA h1 dL_law_657 ?_
  refine z_aload_n C dL_law_658 rfl 0 rfl ?_
  refine z_iload_n C dL_law_659 rfl 3 rfl ?_
  refine z_iconst (v := 2) C dL_law_660 (by decide) ?_
  refine z_iadd C dL_law_661 ?_
  refine z_sld C hX hbl hbA h2 dL_law_662 ?_
  refine z_Vi (As := [.int (xs (zn (x3 + 1))), .int (xs (zn (x3 + 2)))]) C (wT g ma ha bd u1) (wR g ra r) [] (by rw [List.append_nil]) (c_X8_gap l g ra r (xs (zn (x3 + 1))) (xs (zn (x3 + 2))) _ h) v_X8_gap mlL_70 8 (q := (RX8, TX8, 20)) rfl rfl 0 rfl ⟨Nat.le_of_ble_eq_true rfl, Nat.le_of_ble_eq_true rfl⟩ ⟨hk, hn⟩ (Nat.le_of_ble_eq_true rfl) rfl dL_law_663 (fun r2 v1 h => ?_)
  refine z_ws (ws1 := wT g ma ha bd u1 ++ wR g ra v1) (by rw [List.append_nil]) ?_
  exact z_icmp_eq C dL_law_666 (tgt := 1460) (by decide) (fun _ => K u1 v1 h.2) (fun hc => absurd h.1 hc)
/-- tick: both answer alike, and stay alike -/
def pX_tick (Rel Rel1 : TS → RS → Prop) : Prop := ∀ (u : TS) (r : RS) (a1 : Int32), Rel u r → wp_X7_tick u a1 (fun x u1 => wp_X8_tick r a1 (fun y r1 => x = y ∧ Rel1 u1 r1))
set_option maxRecDepth 20000 in
theorem law_13 (C : zCL p s m b meth c g) (hX : va_X b L xs s s.heap) (hbl : b < s.heap.size) (hbA : ¬ AL s b) {Rel Rel1 : TS → RS → Prop} {u : TS} {r : RS} {x3 : Int32} {k n : Nat} (h1 : vp_in (x3 + 1) L) (h2 : vp_in (x3 + 2) L) (h3 : vp_in (x3 + 3) L) (h4 : vp_in (x3 + 4) L) (h5 : vp_in (x3 + 5) L) (hk : k + 26 ≤ 600000) (hn : n + 1308 ≤ 7302250) (h : pX_tick Rel Rel1) (hr : Rel u r) (K : ∀ (u1 : TS) (v1 : RS), Rel1 u1 v1 → jL p l e s m below meth c g b ma ha ra bd u1 v1 x3 (k + 26) (n + 1308) 1460 []) : jL p l e s m below meth c g b ma ha ra bd u r x3 k n 671 [] := by
  have h := h u r (xs (zn (x3 + 1))) hr
  refine z_aload_n C dL_law_671 rfl 1 rfl ?_
  refine z_aload_n C dL_law_672 rfl 0 rfl ?_
  refine z_iload_n C dL_law_673 rfl 3 rfl ?_
  refine z_iconst (v := 1) C dL_law_674 (by decide) ?_
  refine z_iadd C dL_law_675 ?_
  refine z_sld C hX hbl hbA h1 dL_law_676 ?_
  refine z_Vi (As := [.int (xs (zn (x3 + 1)))]) C [] (wT g ma ha bd u) (wR g ra r) rfl (c_X7_tick l g ma ha bd u (xs (zn (x3 + 1))) _ h) v_X7_tick mlL_71 7 (q := (RX7, TX7, 7)) rfl rfl 0 rfl ⟨Nat.le_of_ble_eq_true rfl, Nat.le_of_ble_eq_true rfl⟩ ⟨hk, hn⟩ (Nat.le_of_ble_eq_true rfl) rfl dL_law_677 (fun r1 u1 h => ?_)
  refine z_ws (ws1 := wT g ma ha bd u1 ++ wR g ra r) rfl ?_
  refine z_aload_n C dL_law_680 rfl 2 rfl ?_
  refine z_aload_n C dL_law_681 rfl 0 rfl ?_
  refine z_iload_n C dL_law_682 rfl 3 rfl ?_
  refine z_iconst (v := 1) C dL_law_683 (by decide) ?_
  refine z_iadd C dL_law_684 ?_
  refine z_sld C hX hbl hbA h1 dL_law_685 ?_
  refine z_Vi (As := [.int (xs (zn (x3 + 1)))]) C (wT g ma ha bd u1) (wR g ra r) [] (by rw [List.append_nil]) (c_X8_tick l g ra r (xs (zn (x3 + 1))) _ h) v_X8_tick mlL_74 8 (q := (RX8, TX8, 20)) rfl rfl 0 rfl ⟨Nat.le_of_ble_eq_true rfl, Nat.le_of_ble_eq_true rfl⟩ ⟨hk, hn⟩ (Nat.le_of_ble_eq_true rfl) rfl dL_law_686 (fun r2 v1 h => ?_)
  refine z_ws (ws1 := wT g ma ha bd u1 ++ wR g ra v1) (by rw [List.append_nil]) ?_
  exact z_icmp_eq C dL_law_689 (tgt := 1460) (by decide) (fun _ => K u1 v1 h.2) (fun hc => absurd h.1 hc)
/-- poll: both answer alike, and stay alike -/
def pX_poll (Rel Rel1 : TS → RS → Prop) : Prop := ∀ (u : TS) (r : RS) (a1 : Int32), Rel u r → wp_X7_poll u a1 (fun x u1 => wp_X8_poll r a1 (fun y r1 => x = y ∧ Rel1 u1 r1))
set_option maxRecDepth 20000 in
theorem law_14 (C : zCL p s m b meth c g) (hX : va_X b L xs s s.heap) (hbl : b < s.heap.size) (hbA : ¬ AL s b) {Rel Rel1 : TS → RS → Prop} {u : TS} {r : RS} {x3 : Int32} {k n : Nat} (h1 : vp_in (x3 + 1) L) (h2 : vp_in (x3 + 2) L) (h3 : vp_in (x3 + 3) L) (h4 : vp_in (x3 + 4) L) (h5 : vp_in (x3 + 5) L) (hk : k + 26 ≤ 600000) (hn : n + 1308 ≤ 7302250) (h : pX_poll Rel Rel1) (hr : Rel u r) (K : ∀ (u1 : TS) (v1 : RS), Rel1 u1 v1 → jL p l e s m below meth c g b ma ha ra bd u1 v1 x3 (k + 26) (n + 1308) 1460 []) : jL p l e s m below meth c g b ma ha ra bd u r x3 k n 694 [] := by
  have h := h u r (xs (zn (x3 + 1))) hr
  refine z_aload_n C dL_law_694 rfl 1 rfl ?_
  refine z_aload_n C dL_law_695 rfl 0 rfl ?_
  refine z_iload_n C dL_law_696 rfl 3 rfl ?_
  refine z_iconst (v := 1) C dL_law_697 (by decide) ?_
  refine z_iadd C dL_law_698 ?_
  refine z_sld C hX hbl hbA h1 dL_law_699 ?_
  refine z_Vi (As := [.int (xs (zn (x3 + 1)))]) C [] (wT g ma ha bd u) (wR g ra r) rfl (c_X7_poll l g ma ha bd u (xs (zn (x3 + 1))) _ h) v_X7_poll mlL_75 7 (q := (RX7, TX7, 7)) rfl rfl 0 rfl ⟨Nat.le_of_ble_eq_true rfl, Nat.le_of_ble_eq_true rfl⟩ ⟨hk, hn⟩ (Nat.le_of_ble_eq_true rfl) rfl dL_law_700 (fun r1 u1 h => ?_)
  refine z_ws (ws1 := wT g ma ha bd u1 ++ wR g ra r) rfl ?_
  refine z_aload_n C dL_law_703 rfl 2 rfl ?_
  refine z_aload_n C dL_law_704 rfl 0 rfl ?_
  refine z_iload_n C dL_law_705 rfl 3 rfl ?_
  refine z_iconst (v := 1) C dL_law_706 (by decide) ?_
  refine z_iadd C dL_law_707 ?_
  refine z_sld C hX hbl hbA h1 dL_law_708 ?_
  refine z_Vi (As := [.int (xs (zn (x3 + 1)))]) C (wT g ma ha bd u1) (wR g ra r) [] (by rw [List.append_nil]) (c_X8_poll l g ra r (xs (zn (x3 + 1))) _ h) v_X8_poll mlL_78 8 (q := (RX8, TX8, 20)) rfl rfl 0 rfl ⟨Nat.le_of_ble_eq_true rfl, Nat.le_of_ble_eq_true rfl⟩ ⟨hk, hn⟩ (Nat.le_of_ble_eq_true rfl) rfl dL_law_709 (fun r2 v1 h => ?_)
  refine z_ws (ws1 := wT g ma ha bd u1 ++ wR g ra v1) (by rw [List.append_nil]) ?_
  exact z_icmp_eq C dL_law_712 (tgt := 1460) (by decide) (fun _ => K u1 v1 h.2) (fun hc => absurd h.1 hc)
/-- undo: both answer alike, and stay alike -/
def pX_undo (Rel Rel1 : TS → RS → Prop) : Prop := ∀ (u : TS) (r : RS), Rel u r → wp_X7_undo u (fun x u1 => wp_X8_undo r (fun y r1 => x = y ∧ Rel1 u1 r1))
set_option maxRecDepth 20000 in
theorem law_15 (C : zCL p s m b meth c g) (hX : va_X b L xs s s.heap) (hbl : b < s.heap.size) (hbA : ¬ AL s b) {Rel Rel1 : TS → RS → Prop} {u : TS} {r : RS} {x3 : Int32} {k n : Nat} (h1 : vp_in (x3 + 1) L) (h2 : vp_in (x3 + 2) L) (h3 : vp_in (x3 + 3) L) (h4 : vp_in (x3 + 4) L) (h5 : vp_in (x3 + 5) L) (hk : k + 26 ≤ 600000) (hn : n + 1308 ≤ 7302250) (h : pX_undo Rel Rel1) (hr : Rel u r) (K : ∀ (u1 : TS) (v1 : RS), Rel1 u1 v1 → jL p l e s m below meth c g b ma ha ra bd u1 v1 x3 (k + 26) (n + 1308) 1460 []) : jL p l e s m below meth c g b ma ha ra bd u r x3 k n 717 [] := by
  have h := h u r hr
  refine z_wide (k1 := k + 26) (n1 := n + 1308) (Nat.le_add_right _ _) (Nat.le_add_right _ _) ?_
  refine z_aload_n C dL_law_717 rfl 1 rfl ?_
  refine z_Vi (As := []) C [] (wT g ma ha bd u) (wR g ra r) rfl (c_X7_undo l g ma ha bd u _ h) v_X7_undo mlL_79 7 (q := (RX7, TX7, 7)) rfl rfl 0 rfl ⟨Nat.le_of_ble_eq_true rfl, Nat.le_of_ble_eq_true rfl⟩ ⟨hk, hn⟩ (Nat.le_of_ble_eq_true rfl) rfl dL_law_718 (fun r1 u1 h => ?_)
  refine z_ws (ws1 := wT g ma ha bd u1 ++ wR g ra r) rfl ?_
  refine z_aload_n C dL_law_721 rfl 2 rfl ?_
  refine z_Vi (As := []) C (wT g ma ha bd u1) (wR g ra r) [] (by rw [List.append_nil]) (c_X8_undo l g ra r _ h) v_X8_undo mlL_82 8 (q := (RX8, TX8, 20)) rfl rfl 0 rfl ⟨Nat.le_of_ble_eq_true rfl, Nat.le_of_ble_eq_true rfl⟩ ⟨hk, hn⟩ (Nat.le_of_ble_eq_true rfl) rfl dL_law_722 (fun r2 v1 h => ?_)
  refine z_ws (ws1 := wT g ma ha bd u1 ++ wR g ra v1) (by rw [List.append_nil]) ?_
  exact z_icmp_eq C dL_law_725 (tgt := 1460) (by decide) (fun _ => K u1 v1 h.2) (fun hc => absurd h.1 hc)
/-- image: both answer alike, and stay alike -/
def pX_image (Rel Rel1 : TS → RS → Prop) : Prop := ∀ (u : TS) (r : RS) (a1 : Int32), Rel u r → wp_X7_image u a1 (fun x u1 => wp_X8_image r a1 (fun y r1 => x = y ∧ Rel1 u1 r1))
set_option maxRecDepth 20000 in
theorem law_16 (C : zCL p s m b meth c g) (hX : va_X b L xs s s.heap) (hbl : b < s.heap.size) (hbA : ¬ AL s b) {Rel Rel1 : TS → RS → Prop} {u : TS} {r : RS} {x3 : Int32} {k n : Nat} (h1 : vp_in (x3 + 1) L) (h2 : vp_in (x3 + 2) L) (h3 : vp_in (x3 + 3) L) (h4 : vp_in (x3 + 4) L) (h5 : vp_in (x3 + 5) L) (hk : k + 26 ≤ 600000) (hn : n + 1308 ≤ 7302250) (h : pX_image Rel Rel1) (hr : Rel u r) (K : ∀ (u1 : TS) (v1 : RS), Rel1 u1 v1 → jL p l e s m below meth c g b ma ha ra bd u1 v1 x3 (k + 26) (n + 1308) 1460 []) : jL p l e s m below meth c g b ma ha ra bd u r x3 k n 730 [] := by
  have h := h u r (xs (zn (x3 + 1))) hr
  refine z_aload_n C dL_law_730 rfl 1 rfl ?_
  refine z_aload_n C dL_law_731 rfl 0 rfl ?_
  refine z_iload_n C dL_law_732 rfl 3 rfl ?_
  refine z_iconst (v := 1) C dL_law_733 (by decide) ?_
  refine z_iadd C dL_law_734 ?_
  refine z_sld C hX hbl hbA h1 dL_law_735 ?_
  refine z_Vi (As := [.int (xs (zn (x3 + 1)))]) C [] (wT g ma ha bd u) (wR g ra r) rfl (c_X7_image l g ma ha bd u (xs (zn (x3 + 1))) _ h) v_X7_image mlL_83 7 (q := (RX7, TX7, 7)) rfl rfl 0 rfl ⟨Nat.le_of_ble_eq_true rfl, Nat.le_of_ble_eq_true rfl⟩ ⟨hk, hn⟩ (Nat.le_of_ble_eq_true rfl) rfl dL_law_736 (fun r1 u1 h => ?_)
  refine z_ws (ws1 := wT g ma ha bd u1 ++ wR g ra r) rfl ?_
  refine z_aload_n C dL_law_739 rfl 2 rfl ?_
  refine z_aload_n C dL_law_740 rfl 0 rfl ?_
  refine z_iload_n C dL_law_741 rfl 3 rfl ?_
  refine z_iconst (v := 1) C dL_law_742 (by decide) ?_
  refine z_iadd C dL_law_743 ?_
  refine z_sld C hX hbl hbA h1 dL_law_744 ?_
  refine z_Vi (As := [.int (xs (zn (x3 + 1)))]) C (wT g ma ha bd u1) (wR g ra r) [] (by rw [List.append_nil]) (c_X8_image l g ra r (xs (zn (x3 + 1))) _ h) v_X8_image mlL_86 8 (q := (RX8, TX8, 20)) rfl rfl 0 rfl ⟨Nat.le_of_ble_eq_true rfl, Nat.le_of_ble_eq_true rfl⟩ ⟨hk, hn⟩ (Nat.le_of_ble_eq_true rfl) rfl dL_law_745 (fun r2 v1 h => ?_)
  refine z_ws (ws1 := wT g ma ha bd u1 ++ wR g ra v1) (by rw [List.append_nil]) ?_
  exact z_icmp_eq C dL_law_748 (tgt := 1460) (by decide) (fun _ => K u1 v1 h.2) (fun hc => absurd h.1 hc)
/-- back: both answer alike, and stay alike -/
def pX_back (Rel Rel1 : TS → RS → Prop) : Prop := ∀ (u : TS) (r : RS) (a1 : Int32), Rel u r → wp_X7_back u a1 (fun x u1 => wp_X8_back r a1 (fun y r1 => x = y ∧ Rel1 u1 r1))
set_option maxRecDepth 20000 in
theorem law_17 (C : zCL p s m b meth c g) (hX : va_X b L xs s s.heap) (hbl : b < s.heap.size) (hbA : ¬ AL s b) {Rel Rel1 : TS → RS → Prop} {u : TS} {r : RS} {x3 : Int32} {k n : Nat} (h1 : vp_in (x3 + 1) L) (h2 : vp_in (x3 + 2) L) (h3 : vp_in (x3 + 3) L) (h4 : vp_in (x3 + 4) L) (h5 : vp_in (x3 + 5) L) (hk : k + 26 ≤ 600000) (hn : n + 1308 ≤ 7302250) (h : pX_back Rel Rel1) (hr : Rel u r) (K : ∀ (u1 : TS) (v1 : RS), Rel1 u1 v1 → jL p l e s m below meth c g b ma ha ra bd u1 v1 x3 (k + 26) (n + 1308) 1460 []) : jL p l e s m below meth c g b ma ha ra bd u r x3 k n 753 [] := by
  have h := h u r (xs (zn (x3 + 1))) hr
  refine z_wide (k1 := k + 26) (n1 := n + 1308) (Nat.le_add_right _ _) (Nat.le_add_right _ _) ?_
  refine z_aload_n C dL_law_753 rfl 1 rfl ?_
  refine z_aload_n C dL_law_754 rfl 0 rfl ?_
  refine z_iload_n C dL_law_755 rfl 3 rfl ?_
  refine z_iconst (v := 1) C dL_law_756 (by decide) ?_
  refine z_iadd C dL_law_757 ?_
  refine z_sld C hX hbl hbA h1 dL_law_758 ?_
  refine z_Vi (As := [.int (xs (zn (x3 + 1)))]) C [] (wT g ma ha bd u) (wR g ra r) rfl (c_X7_back l g ma ha bd u (xs (zn (x3 + 1))) _ h) v_X7_back mlL_87 7 (q := (RX7, TX7, 7)) rfl rfl 0 rfl ⟨Nat.le_of_ble_eq_true rfl, Nat.le_of_ble_eq_true rfl⟩ ⟨hk, hn⟩ (Nat.le_of_ble_eq_true rfl) rfl dL_law_759 (fun r1 u1 h => ?_)
  refine z_ws (ws1 := wT g ma ha bd u1 ++ wR g ra r) rfl ?_
  refine z_aload_n C dL_law_762 rfl 2 rfl ?_
  refine z_aload_n C dL_law_763 rfl 0 rfl ?_
  refine z_iload_n C dL_law_764 rfl 3 rfl ?_
  refine z_iconst (v := 1) C dL_law_765 (by decide) ?_
  refine z_iadd C dL_law_766 ?_
  refine z_sld C hX hbl hbA h1 dL_law_767 ?_
  refine z_Vi (As := [.int (xs (zn (x3 + 1)))]) C (wT g ma ha bd u1) (wR g ra r) [] (by rw [List.append_nil]) (c_X8_back l g ra r (xs (zn (x3 + 1))) _ h) v_X8_back mlL_90 8 (q := (RX8, TX8, 20)) rfl rfl 0 rfl ⟨Nat.le_of_ble_eq_true rfl, Nat.le_of_ble_eq_true rfl⟩ ⟨hk, hn⟩ (Nat.le_of_ble_eq_true rfl) rfl dL_law_768 (fun r2 v1 h => ?_)
  refine z_ws (ws1 := wT g ma ha bd u1 ++ wR g ra v1) (by rw [List.append_nil]) ?_
  exact z_icmp_eq C dL_law_771 (tgt := 1460) (by decide) (fun _ => K u1 v1 h.2) (fun hc => absurd h.1 hc)
/-- hash: both answer alike, and stay alike -/
def pX_hash (Rel Rel1 : TS → RS → Prop) : Prop := ∀ (u : TS) (r : RS) (a1 a2 a3 a4 a5 : Int32), Rel u r → wp_X7_hash u a1 a2 a3 a4 a5 (fun x u1 => wp_X8_hash r a1 a2 a3 a4 a5 (fun y r1 => x = y ∧ Rel1 u1 r1))
set_option maxRecDepth 20000 in
theorem law_18 (C : zCL p s m b meth c g) (hX : va_X b L xs s s.heap) (hbl : b < s.heap.size) (hbA : ¬ AL s b) {Rel Rel1 : TS → RS → Prop} {u : TS} {r : RS} {x3 : Int32} {k n : Nat} (h1 : vp_in (x3 + 1) L) (h2 : vp_in (x3 + 2) L) (h3 : vp_in (x3 + 3) L) (h4 : vp_in (x3 + 4) L) (h5 : vp_in (x3 + 5) L) (hk : k + 26 ≤ 600000) (hn : n + 1308 ≤ 7302250) (h : pX_hash Rel Rel1) (hr : Rel u r) (K : ∀ (u1 : TS) (v1 : RS), Rel1 u1 v1 → jL p l e s m below meth c g b ma ha ra bd u1 v1 x3 (k + 26) (n + 1308) 1460 []) : jL p l e s m below meth c g b ma ha ra bd u r x3 k n 776 [] := by
  have h := h u r (xs (zn (x3 + 1))) (xs (zn (x3 + 2))) (xs (zn (x3 + 3))) (xs (zn (x3 + 4))) (xs (zn (x3 + 5))) hr
  refine z_wide (k1 := k + 26) (n1 := n + 1308) (Nat.le_add_right _ _) (Nat.le_add_right _ _) ?_
  refine z_aload_n C dL_law_776 rfl 1 rfl ?_
  refine z_aload_n C dL_law_777 rfl 0 rfl ?_
  refine z_iload_n C dL_law_778 rfl 3 rfl ?_
  refine z_iconst (v := 1) C dL_law_779 (by decide) ?_
  refine z_iadd C dL_law_780 ?_
  refine z_sld C hX hbl hbA h1 dL_law_781 ?_
  refine z_aload_n C dL_law_782 rfl 0 rfl ?_
  refine z_iload_n C dL_law_783 rfl 3 rfl ?_
  refine z_iconst (v := 2) C dL_law_784 (by decide) ?_
  refine z_iadd C dL_law_785 ?_
  refine z_sld C hX hbl hbA h2 dL_law_786 ?_
  refine z_aload_n C dL_law_787 rfl 0 rfl ?_
  refine z_iload_n C dL_law_788 rfl 3 rfl ?_
  refine z_iconst (v := 3) C dL_law_789 (by decide) ?_
  refine z_iadd C dL_law_790 ?_
  refine z_sld C hX hbl hbA h3 dL_law_791 ?_
  refine z_aload_n C dL_law_792 rfl 0 rfl ?_
  refine z_iload_n C dL_law_793 rfl 3 rfl ?_
  refine z_iconst (v := 4) C dL_law_794 (by decide) ?_
  refine z_iadd C dL_law_795 ?_
  refine z_sld C hX hbl hbA h4 dL_law_796 ?_
  refine z_aload_n C dL_law_797 rfl 0 rfl ?_
  refine z_iload_n C dL_law_798 rfl 3 rfl ?_
  refine z_iconst (v := 5) C dL_law_799 (by decide) ?_
  refine z_iadd C dL_law_800 ?_
  refine z_sld C hX hbl hbA h5 dL_law_801 ?_
  refine z_Vi (As := [.int (xs (zn (x3 + 1))), .int (xs (zn (x3 + 2))), .int (xs (zn (x3 + 3))), .int (xs (zn (x3 + 4))), .int (xs (zn (x3 + 5)))]) C [] (wT g ma ha bd u) (wR g ra r) rfl (c_X7_hash l g ma ha bd u (xs (zn (x3 + 1))) (xs (zn (x3 + 2))) (xs (zn (x3 + 3))) (xs (zn (x3 + 4))) (xs (zn (x3 + 5))) _ h) v_X7_hash mlL_91 7 (q := (RX7, TX7, 7)) rfl rfl 0 rfl ⟨Nat.le_of_ble_eq_true rfl, Nat.le_of_ble_eq_true rfl⟩ ⟨hk, hn⟩ (Nat.le_of_ble_eq_true rfl) rfl dL_law_802 (fun r1 u1 h => ?_)
  refine z_ws (ws1 := wT g ma ha bd u1 ++ wR g ra r) rfl ?_
  refine z_aload_n C dL_law_805 rfl 2 rfl ?_
  refine z_aload_n C dL_law_806 rfl 0 rfl ?_
  refine z_iload_n C dL_law_807 rfl 3 rfl ?_
  refine z_iconst (v := 1) C dL_law_808 (by decide) ?_
  refine z_iadd C dL_law_809 ?_
  refine z_sld C hX hbl hbA h1 dL_law_810 ?_
  refine z_aload_n C dL_law_811 rfl 0 rfl ?_
  refine z_iload_n C dL_law_812 rfl 3 rfl ?_
  refine z_iconst (v := 2) C dL_law_813 (by decide) ?_
  refine z_iadd C dL_law_814 ?_
  refine z_sld C hX hbl hbA h2 dL_law_815 ?_
  refine z_aload_n C dL_law_816 rfl 0 rfl ?_
  refine z_iload_n C dL_law_817 rfl 3 rfl ?_
  refine z_iconst (v := 3) C dL_law_818 (by decide) ?_
  refine z_iadd C dL_law_819 ?_
  refine z_sld C hX hbl hbA h3 dL_law_820 ?_
  refine z_aload_n C dL_law_821 rfl 0 rfl ?_
  refine z_iload_n C dL_law_822 rfl 3 rfl ?_
  refine z_iconst (v := 4) C dL_law_823 (by decide) ?_
  refine z_iadd C dL_law_824 ?_
  refine z_sld C hX hbl hbA h4 dL_law_825 ?_
  refine z_aload_n C dL_law_826 rfl 0 rfl ?_
  refine z_iload_n C dL_law_827 rfl 3 rfl ?_
  refine z_iconst (v := 5) C dL_law_828 (by decide) ?_
  refine z_iadd C dL_law_829 ?_
  refine z_sld C hX hbl hbA h5 dL_law_830 ?_
  refine z_Vi (As := [.int (xs (zn (x3 + 1))), .int (xs (zn (x3 + 2))), .int (xs (zn (x3 + 3))), .int (xs (zn (x3 + 4))), .int (xs (zn (x3 + 5)))]) C (wT g ma ha bd u1) (wR g ra r) [] (by rw [List.append_nil]) (c_X8_hash l g ra r (xs (zn (x3 + 1))) (xs (zn (x3 + 2))) (xs (zn (x3 + 3))) (xs (zn (x3 + 4))) (xs (zn (x3 + 5))) _ h) v_X8_hash mlL_94 8 (q := (RX8, TX8, 20)) rfl rfl 0 rfl ⟨Nat.le_of_ble_eq_true rfl, Nat.le_of_ble_eq_true rfl⟩ ⟨hk, hn⟩ (Nat.le_of_ble_eq_true rfl) rfl dL_law_831 (fun r2 v1 h => ?_)
  refine z_ws (ws1 := wT g ma ha bd u1 ++ wR g ra v1) (by rw [List.append_nil]) ?_
  exact z_icmp_eq C dL_law_834 (tgt := 1460) (by decide) (fun _ => K u1 v1 h.2) (fun hc => absurd h.1 hc)
/-- hashOf: both answer alike, and stay alike -/
def pX_hashOf (Rel Rel1 : TS → RS → Prop) : Prop := ∀ (u : TS) (r : RS) (a1 : Int32), Rel u r → wp_X7_hashOf u a1 (fun x u1 => wp_X8_hashOf r a1 (fun y r1 => x = y ∧ Rel1 u1 r1))
set_option maxRecDepth 20000 in
theorem law_19 (C : zCL p s m b meth c g) (hX : va_X b L xs s s.heap) (hbl : b < s.heap.size) (hbA : ¬ AL s b) {Rel Rel1 : TS → RS → Prop} {u : TS} {r : RS} {x3 : Int32} {k n : Nat} (h1 : vp_in (x3 + 1) L) (h2 : vp_in (x3 + 2) L) (h3 : vp_in (x3 + 3) L) (h4 : vp_in (x3 + 4) L) (h5 : vp_in (x3 + 5) L) (hk : k + 26 ≤ 600000) (hn : n + 1308 ≤ 7302250) (h : pX_hashOf Rel Rel1) (hr : Rel u r) (K : ∀ (u1 : TS) (v1 : RS), Rel1 u1 v1 → jL p l e s m below meth c g b ma ha ra bd u1 v1 x3 (k + 26) (n + 1308) 1460 []) : jL p l e s m below meth c g b ma ha ra bd u r x3 k n 839 [] := by
  have h := h u r (xs (zn (x3 + 1))) hr
  refine z_wide (k1 := k + 26) (n1 := n + 1308) (Nat.le_add_right _ _) (Nat.le_add_right _ _) ?_
  refine z_aload_n C dL_law_839 rfl 1 rfl ?_
  refine z_aload_n C dL_law_840 rfl 0 rfl ?_
  refine z_iload_n C dL_law_841 rfl 3 rfl ?_
  refine z_iconst (v := 1) C dL_law_842 (by decide) ?_
  refine z_iadd C dL_law_843 ?_
  refine z_sld C hX hbl hbA h1 dL_law_844 ?_
  refine z_Vi (As := [.int (xs (zn (x3 + 1)))]) C [] (wT g ma ha bd u) (wR g ra r) rfl (c_X7_hashOf l g ma ha bd u (xs (zn (x3 + 1))) _ h) v_X7_hashOf mlL_95 7 (q := (RX7, TX7, 7)) rfl rfl 0 rfl ⟨Nat.le_of_ble_eq_true rfl, Nat.le_of_ble_eq_true rfl⟩ ⟨hk, hn⟩ (Nat.le_of_ble_eq_true rfl) rfl dL_law_845 (fun r1 u1 h => ?_)
  refine z_ws (ws1 := wT g ma ha bd u1 ++ wR g ra r) rfl ?_
  refine z_aload_n C dL_law_848 rfl 2 rfl ?_
  refine z_aload_n C dL_law_849 rfl 0 rfl ?_
  refine z_iload_n C dL_law_850 rfl 3 rfl ?_
  refine z_iconst (v := 1) C dL_law_851 (by decide) ?_
  refine z_iadd C dL_law_852 ?_
  refine z_sld C hX hbl hbA h1 dL_law_853 ?_
  refine z_Vi (As := [.int (xs (zn (x3 + 1)))]) C (wT g ma ha bd u1) (wR g ra r) [] (by rw [List.append_nil]) (c_X8_hashOf l g ra r (xs (zn (x3 + 1))) _ h) v_X8_hashOf mlL_98 8 (q := (RX8, TX8, 20)) rfl rfl 0 rfl ⟨Nat.le_of_ble_eq_true rfl, Nat.le_of_ble_eq_true rfl⟩ ⟨hk, hn⟩ (Nat.le_of_ble_eq_true rfl) rfl dL_law_854 (fun r2 v1 h => ?_)
  refine z_ws (ws1 := wT g ma ha bd u1 ++ wR g ra v1) (by rw [List.append_nil]) ?_
  exact z_icmp_eq C dL_law_857 (tgt := 1460) (by decide) (fun _ => K u1 v1 h.2) (fun hc => absurd h.1 hc)
/-- of: both answer alike, and stay alike -/
def pX_of (Rel Rel1 : TS → RS → Prop) : Prop := ∀ (u : TS) (r : RS) (a1 a2 : Int32), Rel u r → wp_X7_of u a1 a2 (fun x u1 => wp_X8_of r a1 a2 (fun y r1 => x = y ∧ Rel1 u1 r1))
set_option maxRecDepth 20000 in
theorem law_20 (C : zCL p s m b meth c g) (hX : va_X b L xs s s.heap) (hbl : b < s.heap.size) (hbA : ¬ AL s b) {Rel Rel1 : TS → RS → Prop} {u : TS} {r : RS} {x3 : Int32} {k n : Nat} (h1 : vp_in (x3 + 1) L) (h2 : vp_in (x3 + 2) L) (h3 : vp_in (x3 + 3) L) (h4 : vp_in (x3 + 4) L) (h5 : vp_in (x3 + 5) L) (hk : k + 26 ≤ 600000) (hn : n + 1308 ≤ 7302250) (h : pX_of Rel Rel1) (hr : Rel u r) (K : ∀ (u1 : TS) (v1 : RS), Rel1 u1 v1 → jL p l e s m below meth c g b ma ha ra bd u1 v1 x3 (k + 26) (n + 1308) 1460 []) : jL p l e s m below meth c g b ma ha ra bd u r x3 k n 862 [] := by
  have h := h u r (xs (zn (x3 + 1))) (xs (zn (x3 + 2))) hr
  refine z_wide (k1 := k + 26) (n1 := n + 1308) (Nat.le_add_right _ _) (Nat.le_add_right _ _) ?_
  refine z_aload_n C dL_law_862 rfl 1 rfl ?_
  refine z_aload_n C dL_law_863 rfl 0 rfl ?_
  refine z_iload_n C dL_law_864 rfl 3 rfl ?_
  refine z_iconst (v := 1) C dL_law_865 (by decide) ?_
  refine z_iadd C dL_law_866 ?_
  refine z_sld C hX hbl hbA h1 dL_law_867 ?_
  refine z_aload_n C dL_law_868 rfl 0 rfl ?_
  refine z_iload_n C dL_law_869 rfl 3 rfl ?_
  refine z_iconst (v := 2) C dL_law_870 (by decide) ?_
  refine z_iadd C dL_law_871 ?_
  refine z_sld C hX hbl hbA h2 dL_law_872 ?_
  refine z_Vi (As := [.int (xs (zn (x3 + 1))), .int (xs (zn (x3 + 2)))]) C [] (wT g ma ha bd u) (wR g ra r) rfl (c_X7_of l g ma ha bd u (xs (zn (x3 + 1))) (xs (zn (x3 + 2))) _ h) v_X7_of mlL_99 7 (q := (RX7, TX7, 7)) rfl rfl 0 rfl ⟨Nat.le_of_ble_eq_true rfl, Nat.le_of_ble_eq_true rfl⟩ ⟨hk, hn⟩ (Nat.le_of_ble_eq_true rfl) rfl dL_law_873 (fun r1 u1 h => ?_)
  refine z_ws (ws1 := wT g ma ha bd u1 ++ wR g ra r) rfl ?_
  refine z_aload_n C dL_law_876 rfl 2 rfl ?_
  refine z_aload_n C dL_law_877 rfl 0 rfl ?_
  refine z_iload_n C dL_law_878 rfl 3 rfl ?_
  refine z_iconst (v := 1) C dL_law_879 (by decide) ?_
  refine z_iadd C dL_law_880 ?_
  refine z_sld C hX hbl hbA h1 dL_law_881 ?_
  refine z_aload_n C dL_law_882 rfl 0 rfl ?_
  refine z_iload_n C dL_law_883 rfl 3 rfl ?_
  refine z_iconst (v := 2) C dL_law_884 (by decide) ?_
  refine z_iadd C dL_law_885 ?_
  refine z_sld C hX hbl hbA h2 dL_law_886 ?_
  refine z_Vi (As := [.int (xs (zn (x3 + 1))), .int (xs (zn (x3 + 2)))]) C (wT g ma ha bd u1) (wR g ra r) [] (by rw [List.append_nil]) (c_X8_of l g ra r (xs (zn (x3 + 1))) (xs (zn (x3 + 2))) _ h) v_X8_of mlL_102 8 (q := (RX8, TX8, 20)) rfl rfl 0 rfl ⟨Nat.le_of_ble_eq_true rfl, Nat.le_of_ble_eq_true rfl⟩ ⟨hk, hn⟩ (Nat.le_of_ble_eq_true rfl) rfl dL_law_887 (fun r2 v1 h => ?_)
  refine z_ws (ws1 := wT g ma ha bd u1 ++ wR g ra v1) (by rw [List.append_nil]) ?_
  exact z_icmp_eq C dL_law_890 (tgt := 1460) (by decide) (fun _ => K u1 v1 h.2) (fun hc => absurd h.1 hc)
/-- find: both answer alike, and stay alike -/
def pX_find (Rel Rel1 : TS → RS → Prop) : Prop := ∀ (u : TS) (r : RS) (a1 a2 a3 a4 a5 : Int32), Rel u r → wp_X7_find u a1 a2 a3 a4 a5 (fun x u1 => wp_X8_find r a1 a2 a3 a4 a5 (fun y r1 => x = y ∧ Rel1 u1 r1))
set_option maxRecDepth 20000 in
theorem law_21 (C : zCL p s m b meth c g) (hX : va_X b L xs s s.heap) (hbl : b < s.heap.size) (hbA : ¬ AL s b) {Rel Rel1 : TS → RS → Prop} {u : TS} {r : RS} {x3 : Int32} {k n : Nat} (h1 : vp_in (x3 + 1) L) (h2 : vp_in (x3 + 2) L) (h3 : vp_in (x3 + 3) L) (h4 : vp_in (x3 + 4) L) (h5 : vp_in (x3 + 5) L) (hk : k + 26 ≤ 600000) (hn : n + 1308 ≤ 7302250) (h : pX_find Rel Rel1) (hr : Rel u r) (K : ∀ (u1 : TS) (v1 : RS), Rel1 u1 v1 → jL p l e s m below meth c g b ma ha ra bd u1 v1 x3 (k + 26) (n + 1308) 1460 []) : jL p l e s m below meth c g b ma ha ra bd u r x3 k n 895 [] := by
  have h := h u r (xs (zn (x3 + 1))) (xs (zn (x3 + 2))) (xs (zn (x3 + 3))) (xs (zn (x3 + 4))) (xs (zn (x3 + 5))) hr
  refine z_wide (k1 := k + 26) (n1 := n + 1308) (Nat.le_add_right _ _) (Nat.le_add_right _ _) ?_
  refine z_aload_n C dL_law_895 rfl 1 rfl ?_
  refine z_aload_n C dL_law_896 rfl 0 rfl ?_
  refine z_iload_n C dL_law_897 rfl 3 rfl ?_
  refine z_iconst (v := 1) C dL_law_898 (by decide) ?_
  refine z_iadd C dL_law_899 ?_
  refine z_sld C hX hbl hbA h1 dL_law_900 ?_
  refine z_aload_n C dL_law_901 rfl 0 rfl ?_
  refine z_iload_n C dL_law_902 rfl 3 rfl ?_
  refine z_iconst (v := 2) C dL_law_903 (by decide) ?_
  refine z_iadd C dL_law_904 ?_
  refine z_sld C hX hbl hbA h2 dL_law_905 ?_
  refine z_aload_n C dL_law_906 rfl 0 rfl ?_
  refine z_iload_n C dL_law_907 rfl 3 rfl ?_
  refine z_iconst (v := 3) C dL_law_908 (by decide) ?_
  refine z_iadd C dL_law_909 ?_
  refine z_sld C hX hbl hbA h3 dL_law_910 ?_
  refine z_aload_n C dL_law_911 rfl 0 rfl ?_
  refine z_iload_n C dL_law_912 rfl 3 rfl ?_
  refine z_iconst (v := 4) C dL_law_913 (by decide) ?_
  refine z_iadd C dL_law_914 ?_
  refine z_sld C hX hbl hbA h4 dL_law_915 ?_
  refine z_aload_n C dL_law_916 rfl 0 rfl ?_
  refine z_iload_n C dL_law_917 rfl 3 rfl ?_
  refine z_iconst (v := 5) C dL_law_918 (by decide) ?_
  refine z_iadd C dL_law_919 ?_
  refine z_sld C hX hbl hbA h5 dL_law_920 ?_
  refine z_Vi (As := [.int (xs (zn (x3 + 1))), .int (xs (zn (x3 + 2))), .int (xs (zn (x3 + 3))), .int (xs (zn (x3 + 4))), .int (xs (zn (x3 + 5)))]) C [] (wT g ma ha bd u) (wR g ra r) rfl (c_X7_find l g ma ha bd u (xs (zn (x3 + 1))) (xs (zn (x3 + 2))) (xs (zn (x3 + 3))) (xs (zn (x3 + 4))) (xs (zn (x3 + 5))) _ h) v_X7_find mlL_103 7 (q := (RX7, TX7, 7)) rfl rfl 0 rfl ⟨Nat.le_of_ble_eq_true rfl, Nat.le_of_ble_eq_true rfl⟩ ⟨hk, hn⟩ (Nat.le_of_ble_eq_true rfl) rfl dL_law_921 (fun r1 u1 h => ?_)
  refine z_ws (ws1 := wT g ma ha bd u1 ++ wR g ra r) rfl ?_
  refine z_aload_n C dL_law_924 rfl 2 rfl ?_
  refine z_aload_n C dL_law_925 rfl 0 rfl ?_
  refine z_iload_n C dL_law_926 rfl 3 rfl ?_
  refine z_iconst (v := 1) C dL_law_927 (by decide) ?_
  refine z_iadd C dL_law_928 ?_
  refine z_sld C hX hbl hbA h1 dL_law_929 ?_
  refine z_aload_n C dL_law_930 rfl 0 rfl ?_
  refine z_iload_n C dL_law_931 rfl 3 rfl ?_
  refine z_iconst (v := 2) C dL_law_932 (by decide) ?_
  refine z_iadd C dL_law_933 ?_
  refine z_sld C hX hbl hbA h2 dL_law_934 ?_
  refine z_aload_n C dL_law_935 rfl 0 rfl ?_
  refine z_iload_n C dL_law_936 rfl 3 rfl ?_
  refine z_iconst (v := 3) C dL_law_937 (by decide) ?_
  refine z_iadd C dL_law_938 ?_
  refine z_sld C hX hbl hbA h3 dL_law_939 ?_
  refine z_aload_n C dL_law_940 rfl 0 rfl ?_
  refine z_iload_n C dL_law_941 rfl 3 rfl ?_
  refine z_iconst (v := 4) C dL_law_942 (by decide) ?_
  refine z_iadd C dL_law_943 ?_
  refine z_sld C hX hbl hbA h4 dL_law_944 ?_
  refine z_aload_n C dL_law_945 rfl 0 rfl ?_
  refine z_iload_n C dL_law_946 rfl 3 rfl ?_
  refine z_iconst (v := 5) C dL_law_947 (by decide) ?_
  refine z_iadd C dL_law_948 ?_
  refine z_sld C hX hbl hbA h5 dL_law_949 ?_
  refine z_Vi (As := [.int (xs (zn (x3 + 1))), .int (xs (zn (x3 + 2))), .int (xs (zn (x3 + 3))), .int (xs (zn (x3 + 4))), .int (xs (zn (x3 + 5)))]) C (wT g ma ha bd u1) (wR g ra r) [] (by rw [List.append_nil]) (c_X8_find l g ra r (xs (zn (x3 + 1))) (xs (zn (x3 + 2))) (xs (zn (x3 + 3))) (xs (zn (x3 + 4))) (xs (zn (x3 + 5))) _ h) v_X8_find mlL_106 8 (q := (RX8, TX8, 20)) rfl rfl 0 rfl ⟨Nat.le_of_ble_eq_true rfl, Nat.le_of_ble_eq_true rfl⟩ ⟨hk, hn⟩ (Nat.le_of_ble_eq_true rfl) rfl dL_law_950 (fun r2 v1 h => ?_)
  refine z_ws (ws1 := wT g ma ha bd u1 ++ wR g ra v1) (by rw [List.append_nil]) ?_
  exact z_icmp_eq C dL_law_953 (tgt := 1460) (by decide) (fun _ => K u1 v1 h.2) (fun hc => absurd h.1 hc)
/-- missing: both answer alike, and stay alike -/
def pX_missing (Rel Rel1 : TS → RS → Prop) : Prop := ∀ (u : TS) (r : RS) (a1 a2 : Int32), Rel u r → wp_X7_missing u a1 a2 (fun x u1 => wp_X8_missing r a1 a2 (fun y r1 => x = y ∧ Rel1 u1 r1))
set_option maxRecDepth 20000 in
theorem law_22 (C : zCL p s m b meth c g) (hX : va_X b L xs s s.heap) (hbl : b < s.heap.size) (hbA : ¬ AL s b) {Rel Rel1 : TS → RS → Prop} {u : TS} {r : RS} {x3 : Int32} {k n : Nat} (h1 : vp_in (x3 + 1) L) (h2 : vp_in (x3 + 2) L) (h3 : vp_in (x3 + 3) L) (h4 : vp_in (x3 + 4) L) (h5 : vp_in (x3 + 5) L) (hk : k + 26 ≤ 600000) (hn : n + 1308 ≤ 7302250) (h : pX_missing Rel Rel1) (hr : Rel u r) (K : ∀ (u1 : TS) (v1 : RS), Rel1 u1 v1 → jL p l e s m below meth c g b ma ha ra bd u1 v1 x3 (k + 26) (n + 1308) 1460 []) : jL p l e s m below meth c g b ma ha ra bd u r x3 k n 958 [] := by
  have h := h u r (xs (zn (x3 + 1))) (xs (zn (x3 + 2))) hr
  refine z_wide (k1 := k + 26) (n1 := n + 1308) (Nat.le_add_right _ _) (Nat.le_add_right _ _) ?_
  refine z_aload_n C dL_law_958 rfl 1 rfl ?_
  refine z_aload_n C dL_law_959 rfl 0 rfl ?_
  refine z_iload_n C dL_law_960 rfl 3 rfl ?_
  refine z_iconst (v := 1) C dL_law_961 (by decide) ?_
  refine z_iadd C dL_law_962 ?_
  refine z_sld C hX hbl hbA h1 dL_law_963 ?_
  refine z_aload_n C dL_law_964 rfl 0 rfl ?_
  refine z_iload_n C dL_law_965 rfl 3 rfl ?_
  refine z_iconst (v := 2) C dL_law_966 (by decide) ?_
  refine z_iadd C dL_law_967 ?_
  refine z_sld C hX hbl hbA h2 dL_law_968 ?_
  refine z_Vi (As := [.int (xs (zn (x3 + 1))), .int (xs (zn (x3 + 2)))]) C [] (wT g ma ha bd u) (wR g ra r) rfl (c_X7_missing l g ma ha bd u (xs (zn (x3 + 1))) (xs (zn (x3 + 2))) _ h) v_X7_missing mlL_107 7 (q := (RX7, TX7, 7)) rfl rfl 0 rfl ⟨Nat.le_of_ble_eq_true rfl, Nat.le_of_ble_eq_true rfl⟩ ⟨hk, hn⟩ (Nat.le_of_ble_eq_true rfl) rfl dL_law_969 (fun r1 u1 h => ?_)
  refine z_ws (ws1 := wT g ma ha bd u1 ++ wR g ra r) rfl ?_
  refine z_aload_n C dL_law_972 rfl 2 rfl ?_
  refine z_aload_n C dL_law_973 rfl 0 rfl ?_
  refine z_iload_n C dL_law_974 rfl 3 rfl ?_
  refine z_iconst (v := 1) C dL_law_975 (by decide) ?_
  refine z_iadd C dL_law_976 ?_
  refine z_sld C hX hbl hbA h1 dL_law_977 ?_
  refine z_aload_n C dL_law_978 rfl 0 rfl ?_
  refine z_iload_n C dL_law_979 rfl 3 rfl ?_
  refine z_iconst (v := 2) C dL_law_980 (by decide) ?_
  refine z_iadd C dL_law_981 ?_
  refine z_sld C hX hbl hbA h2 dL_law_982 ?_
  refine z_Vi (As := [.int (xs (zn (x3 + 1))), .int (xs (zn (x3 + 2)))]) C (wT g ma ha bd u1) (wR g ra r) [] (by rw [List.append_nil]) (c_X8_missing l g ra r (xs (zn (x3 + 1))) (xs (zn (x3 + 2))) _ h) v_X8_missing mlL_110 8 (q := (RX8, TX8, 20)) rfl rfl 0 rfl ⟨Nat.le_of_ble_eq_true rfl, Nat.le_of_ble_eq_true rfl⟩ ⟨hk, hn⟩ (Nat.le_of_ble_eq_true rfl) rfl dL_law_983 (fun r2 v1 h => ?_)
  refine z_ws (ws1 := wT g ma ha bd u1 ++ wR g ra v1) (by rw [List.append_nil]) ?_
  exact z_icmp_eq C dL_law_986 (tgt := 1460) (by decide) (fun _ => K u1 v1 h.2) (fun hc => absurd h.1 hc)
/-- entry: both answer alike, and stay alike -/
def pX_entry (Rel Rel1 : TS → RS → Prop) : Prop := ∀ (u : TS) (r : RS) (a1 a2 : Int32), Rel u r → wp_X7_entry u a1 a2 (fun x u1 => wp_X8_entry r a1 a2 (fun y r1 => x = y ∧ Rel1 u1 r1))
set_option maxRecDepth 20000 in
theorem law_23 (C : zCL p s m b meth c g) (hX : va_X b L xs s s.heap) (hbl : b < s.heap.size) (hbA : ¬ AL s b) {Rel Rel1 : TS → RS → Prop} {u : TS} {r : RS} {x3 : Int32} {k n : Nat} (h1 : vp_in (x3 + 1) L) (h2 : vp_in (x3 + 2) L) (h3 : vp_in (x3 + 3) L) (h4 : vp_in (x3 + 4) L) (h5 : vp_in (x3 + 5) L) (hk : k + 26 ≤ 600000) (hn : n + 1308 ≤ 7302250) (h : pX_entry Rel Rel1) (hr : Rel u r) (K : ∀ (u1 : TS) (v1 : RS), Rel1 u1 v1 → jL p l e s m below meth c g b ma ha ra bd u1 v1 x3 (k + 26) (n + 1308) 1460 []) : jL p l e s m below meth c g b ma ha ra bd u r x3 k n 991 [] := by
  have h := h u r (xs (zn (x3 + 1))) (xs (zn (x3 + 2))) hr
  refine z_wide (k1 := k + 26) (n1 := n + 1308) (Nat.le_add_right _ _) (Nat.le_add_right _ _) ?_
  refine z_aload_n C dL_law_991 rfl 1 rfl ?_
  refine z_aload_n C dL_law_992 rfl 0 rfl ?_
  refine z_iload_n C dL_law_993 rfl 3 rfl ?_
  refine z_iconst (v := 1) C dL_law_994 (by decide) ?_
  refine z_iadd C dL_law_995 ?_
  refine z_sld C hX hbl hbA h1 dL_law_996 ?_
  refine z_aload_n C dL_law_997 rfl 0 rfl ?_
  refine z_iload_n C dL_law_998 rfl 3 rfl ?_
  refine z_iconst (v := 2) C dL_law_999 (by decide) ?_
  refine z_iadd C dL_law_1000 ?_
  refine z_sld C hX hbl hbA h2 dL_law_1001 ?_
  refine z_Vi (As := [.int (xs (zn (x3 + 1))), .int (xs (zn (x3 + 2)))]) C [] (wT g ma ha bd u) (wR g ra r) rfl (c_X7_entry l g ma ha bd u (xs (zn (x3 + 1))) (xs (zn (x3 + 2))) _ h) v_X7_entry mlL_111 7 (q := (RX7, TX7, 7)) rfl rfl 0 rfl ⟨Nat.le_of_ble_eq_true rfl, Nat.le_of_ble_eq_true rfl⟩ ⟨hk, hn⟩ (Nat.le_of_ble_eq_true rfl) rfl dL_law_1002 (fun r1 u1 h => ?_)
  refine z_ws (ws1 := wT g ma ha bd u1 ++ wR g ra r) rfl ?_
  refine z_aload_n C dL_law_1005 rfl 2 rfl ?_
  refine z_aload_n C dL_law_1006 rfl 0 rfl ?_
  refine z_iload_n C dL_law_1007 rfl 3 rfl ?_
  refine z_iconst (v := 1) C dL_law_1008 (by decide) ?_
  refine z_iadd C dL_law_1009 ?_
  refine z_sld C hX hbl hbA h1 dL_law_1010 ?_
  refine z_aload_n C dL_law_1011 rfl 0 rfl ?_
  refine z_iload_n C dL_law_1012 rfl 3 rfl ?_
  refine z_iconst (v := 2) C dL_law_1013 (by decide) ?_
  refine z_iadd C dL_law_1014 ?_
  refine z_sld C hX hbl hbA h2 dL_law_1015 ?_
  refine z_Vi (As := [.int (xs (zn (x3 + 1))), .int (xs (zn (x3 + 2)))]) C (wT g ma ha bd u1) (wR g ra r) [] (by rw [List.append_nil]) (c_X8_entry l g ra r (xs (zn (x3 + 1))) (xs (zn (x3 + 2))) _ h) v_X8_entry mlL_114 8 (q := (RX8, TX8, 20)) rfl rfl 0 rfl ⟨Nat.le_of_ble_eq_true rfl, Nat.le_of_ble_eq_true rfl⟩ ⟨hk, hn⟩ (Nat.le_of_ble_eq_true rfl) rfl dL_law_1016 (fun r2 v1 h => ?_)
  refine z_ws (ws1 := wT g ma ha bd u1 ++ wR g ra v1) (by rw [List.append_nil]) ?_
  exact z_icmp_eq C dL_law_1019 (tgt := 1460) (by decide) (fun _ => K u1 v1 h.2) (fun hc => absurd h.1 hc)
/-- queue: both answer alike, and stay alike -/
def pX_queue (Rel Rel1 : TS → RS → Prop) : Prop := ∀ (u : TS) (r : RS) (a1 a2 : Int32), Rel u r → wp_X7_queue u a1 a2 (fun x u1 => wp_X8_queue r a1 a2 (fun y r1 => x = y ∧ Rel1 u1 r1))
set_option maxRecDepth 20000 in
theorem law_24 (C : zCL p s m b meth c g) (hX : va_X b L xs s s.heap) (hbl : b < s.heap.size) (hbA : ¬ AL s b) {Rel Rel1 : TS → RS → Prop} {u : TS} {r : RS} {x3 : Int32} {k n : Nat} (h1 : vp_in (x3 + 1) L) (h2 : vp_in (x3 + 2) L) (h3 : vp_in (x3 + 3) L) (h4 : vp_in (x3 + 4) L) (h5 : vp_in (x3 + 5) L) (hk : k + 26 ≤ 600000) (hn : n + 1308 ≤ 7302250) (h : pX_queue Rel Rel1) (hr : Rel u r) (K : ∀ (u1 : TS) (v1 : RS), Rel1 u1 v1 → jL p l e s m below meth c g b ma ha ra bd u1 v1 x3 (k + 26) (n + 1308) 1460 []) : jL p l e s m below meth c g b ma ha ra bd u r x3 k n 1024 [] := by
  have h := h u r (xs (zn (x3 + 1))) (xs (zn (x3 + 2))) hr
  refine z_wide (k1 := k + 26) (n1 := n + 1308) (Nat.le_add_right _ _) (Nat.le_add_right _ _) ?_
  refine z_aload_n C dL_law_1024 rfl 1 rfl ?_
  refine z_aload_n C dL_law_1025 rfl 0 rfl ?_
  refine z_iload_n C dL_law_1026 rfl 3 rfl ?_
  refine z_iconst (v := 1) C dL_law_1027 (by decide) ?_
  refine z_iadd C dL_law_1028 ?_
  refine z_sld C hX hbl hbA h1 dL_law_1029 ?_
  refine z_aload_n C dL_law_1030 rfl 0 rfl ?_
  refine z_iload_n C dL_law_1031 rfl 3 rfl ?_
  refine z_iconst (v := 2) C dL_law_1032 (by decide) ?_
  refine z_iadd C dL_law_1033 ?_
  refine z_sld C hX hbl hbA h2 dL_law_1034 ?_
  refine z_Vi (As := [.int (xs (zn (x3 + 1))), .int (xs (zn (x3 + 2)))]) C [] (wT g ma ha bd u) (wR g ra r) rfl (c_X7_queue l g ma ha bd u (xs (zn (x3 + 1))) (xs (zn (x3 + 2))) _ h) v_X7_queue mlL_115 7 (q := (RX7, TX7, 7)) rfl rfl 0 rfl ⟨Nat.le_of_ble_eq_true rfl, Nat.le_of_ble_eq_true rfl⟩ ⟨hk, hn⟩ (Nat.le_of_ble_eq_true rfl) rfl dL_law_1035 (fun r1 u1 h => ?_)
  refine z_ws (ws1 := wT g ma ha bd u1 ++ wR g ra r) rfl ?_
  refine z_aload_n C dL_law_1038 rfl 2 rfl ?_
  refine z_aload_n C dL_law_1039 rfl 0 rfl ?_
  refine z_iload_n C dL_law_1040 rfl 3 rfl ?_
  refine z_iconst (v := 1) C dL_law_1041 (by decide) ?_
  refine z_iadd C dL_law_1042 ?_
  refine z_sld C hX hbl hbA h1 dL_law_1043 ?_
  refine z_aload_n C dL_law_1044 rfl 0 rfl ?_
  refine z_iload_n C dL_law_1045 rfl 3 rfl ?_
  refine z_iconst (v := 2) C dL_law_1046 (by decide) ?_
  refine z_iadd C dL_law_1047 ?_
  refine z_sld C hX hbl hbA h2 dL_law_1048 ?_
  refine z_Vi (As := [.int (xs (zn (x3 + 1))), .int (xs (zn (x3 + 2)))]) C (wT g ma ha bd u1) (wR g ra r) [] (by rw [List.append_nil]) (c_X8_queue l g ra r (xs (zn (x3 + 1))) (xs (zn (x3 + 2))) _ h) v_X8_queue mlL_118 8 (q := (RX8, TX8, 20)) rfl rfl 0 rfl ⟨Nat.le_of_ble_eq_true rfl, Nat.le_of_ble_eq_true rfl⟩ ⟨hk, hn⟩ (Nat.le_of_ble_eq_true rfl) rfl dL_law_1049 (fun r2 v1 h => ?_)
  refine z_ws (ws1 := wT g ma ha bd u1 ++ wR g ra v1) (by rw [List.append_nil]) ?_
  exact z_icmp_eq C dL_law_1052 (tgt := 1460) (by decide) (fun _ => K u1 v1 h.2) (fun hc => absurd h.1 hc)
/-- waits: both answer alike, and stay alike -/
def pX_waits (Rel Rel1 : TS → RS → Prop) : Prop := ∀ (u : TS) (r : RS) (a1 a2 a3 : Int32), Rel u r → wp_X7_waits u a1 a2 a3 (fun x u1 => wp_X8_waits r a1 a2 a3 (fun y r1 => x = y ∧ Rel1 u1 r1))
set_option maxRecDepth 20000 in
theorem law_25 (C : zCL p s m b meth c g) (hX : va_X b L xs s s.heap) (hbl : b < s.heap.size) (hbA : ¬ AL s b) {Rel Rel1 : TS → RS → Prop} {u : TS} {r : RS} {x3 : Int32} {k n : Nat} (h1 : vp_in (x3 + 1) L) (h2 : vp_in (x3 + 2) L) (h3 : vp_in (x3 + 3) L) (h4 : vp_in (x3 + 4) L) (h5 : vp_in (x3 + 5) L) (hk : k + 26 ≤ 600000) (hn : n + 1308 ≤ 7302250) (h : pX_waits Rel Rel1) (hr : Rel u r) (K : ∀ (u1 : TS) (v1 : RS), Rel1 u1 v1 → jL p l e s m below meth c g b ma ha ra bd u1 v1 x3 (k + 26) (n + 1308) 1460 []) : jL p l e s m below meth c g b ma ha ra bd u r x3 k n 1057 [] := by
  have h := h u r (xs (zn (x3 + 1))) (xs (zn (x3 + 2))) (xs (zn (x3 + 3))) hr
  refine z_wide (k1 := k + 26) (n1 := n + 1308) (Nat.le_add_right _ _) (Nat.le_add_right _ _) ?_
  refine z_aload_n C dL_law_1057 rfl 1 rfl ?_
  refine z_aload_n C dL_law_1058 rfl 0 rfl ?_
  refine z_iload_n C dL_law_1059 rfl 3 rfl ?_
  refine z_iconst (v := 1) C dL_law_1060 (by decide) ?_
  refine z_iadd C dL_law_1061 ?_
  refine z_sld C hX hbl hbA h1 dL_law_1062 ?_
  refine z_aload_n C dL_law_1063 rfl 0 rfl ?_
  refine z_iload_n C dL_law_1064 rfl 3 rfl ?_
  refine z_iconst (v := 2) C dL_law_1065 (by decide) ?_
  refine z_iadd C dL_law_1066 ?_
  refine z_sld C hX hbl hbA h2 dL_law_1067 ?_
  refine z_aload_n C dL_law_1068 rfl 0 rfl ?_
  refine z_iload_n C dL_law_1069 rfl 3 rfl ?_
  refine z_iconst (v := 3) C dL_law_1070 (by decide) ?_
  refine z_iadd C dL_law_1071 ?_
  refine z_sld C hX hbl hbA h3 dL_law_1072 ?_
  refine z_Vi (As := [.int (xs (zn (x3 + 1))), .int (xs (zn (x3 + 2))), .int (xs (zn (x3 + 3)))]) C [] (wT g ma ha bd u) (wR g ra r) rfl (c_X7_waits l g ma ha bd u (xs (zn (x3 + 1))) (xs (zn (x3 + 2))) (xs (zn (x3 + 3))) _ h) v_X7_waits mlL_119 7 (q := (RX7, TX7, 7)) rfl rfl 0 rfl ⟨Nat.le_of_ble_eq_true rfl, Nat.le_of_ble_eq_true rfl⟩ ⟨hk, hn⟩ (Nat.le_of_ble_eq_true rfl) rfl dL_law_1073 (fun r1 u1 h => ?_)
  refine z_ws (ws1 := wT g ma ha bd u1 ++ wR g ra r) rfl ?_
  refine z_aload_n C dL_law_1076 rfl 2 rfl ?_
  refine z_aload_n C dL_law_1077 rfl 0 rfl ?_
  refine z_iload_n C dL_law_1078 rfl 3 rfl ?_
  refine z_iconst (v := 1) C dL_law_1079 (by decide) ?_
  refine z_iadd C dL_law_1080 ?_
  refine z_sld C hX hbl hbA h1 dL_law_1081 ?_
  refine z_aload_n C dL_law_1082 rfl 0 rfl ?_
  refine z_iload_n C dL_law_1083 rfl 3 rfl ?_
  refine z_iconst (v := 2) C dL_law_1084 (by decide) ?_
  refine z_iadd C dL_law_1085 ?_
  refine z_sld C hX hbl hbA h2 dL_law_1086 ?_
  refine z_aload_n C dL_law_1087 rfl 0 rfl ?_
  refine z_iload_n C dL_law_1088 rfl 3 rfl ?_
  refine z_iconst (v := 3) C dL_law_1089 (by decide) ?_
  refine z_iadd C dL_law_1090 ?_
  refine z_sld C hX hbl hbA h3 dL_law_1091 ?_
  refine z_Vi (As := [.int (xs (zn (x3 + 1))), .int (xs (zn (x3 + 2))), .int (xs (zn (x3 + 3)))]) C (wT g ma ha bd u1) (wR g ra r) [] (by rw [List.append_nil]) (c_X8_waits l g ra r (xs (zn (x3 + 1))) (xs (zn (x3 + 2))) (xs (zn (x3 + 3))) _ h) v_X8_waits mlL_122 8 (q := (RX8, TX8, 20)) rfl rfl 0 rfl ⟨Nat.le_of_ble_eq_true rfl, Nat.le_of_ble_eq_true rfl⟩ ⟨hk, hn⟩ (Nat.le_of_ble_eq_true rfl) rfl dL_law_1092 (fun r2 v1 h => ?_)
  refine z_ws (ws1 := wT g ma ha bd u1 ++ wR g ra v1) (by rw [List.append_nil]) ?_
  exact z_icmp_eq C dL_law_1095 (tgt := 1460) (by decide) (fun _ => K u1 v1 h.2) (fun hc => absurd h.1 hc)
/-- segment: both answer alike, and stay alike -/
def pX_segment (Rel Rel1 : TS → RS → Prop) : Prop := ∀ (u : TS) (r : RS) (a1 a2 : Int32), Rel u r → wp_X7_segment u a1 a2 (fun x u1 => wp_X8_segment r a1 a2 (fun y r1 => x = y ∧ Rel1 u1 r1))
set_option maxRecDepth 20000 in
theorem law_26 (C : zCL p s m b meth c g) (hX : va_X b L xs s s.heap) (hbl : b < s.heap.size) (hbA : ¬ AL s b) {Rel Rel1 : TS → RS → Prop} {u : TS} {r : RS} {x3 : Int32} {k n : Nat} (h1 : vp_in (x3 + 1) L) (h2 : vp_in (x3 + 2) L) (h3 : vp_in (x3 + 3) L) (h4 : vp_in (x3 + 4) L) (h5 : vp_in (x3 + 5) L) (hk : k + 26 ≤ 600000) (hn : n + 1308 ≤ 7302250) (h : pX_segment Rel Rel1) (hr : Rel u r) (K : ∀ (u1 : TS) (v1 : RS), Rel1 u1 v1 → jL p l e s m below meth c g b ma ha ra bd u1 v1 x3 (k + 26) (n + 1308) 1460 []) : jL p l e s m below meth c g b ma ha ra bd u r x3 k n 1100 [] := by
  have h := h u r (xs (zn (x3 + 1))) (xs (zn (x3 + 2))) hr
  refine z_wide (k1 := k + 26) (n1 := n + 1308) (Nat.le_add_right _ _) (Nat.le_add_right _ _) ?_
  refine z_aload_n C dL_law_1100 rfl 1 rfl ?_
  refine z_aload_n C dL_law_1101 rfl 0 rfl ?_
  refine z_iload_n C dL_law_1102 rfl 3 rfl ?_
  refine z_iconst (v := 1) C dL_law_1103 (by decide) ?_
  refine z_iadd C dL_law_1104 ?_
  refine z_sld C hX hbl hbA h1 dL_law_1105 ?_
  refine z_aload_n C dL_law_1106 rfl 0 rfl ?_
  refine z_iload_n C dL_law_1107 rfl 3 rfl ?_
  refine z_iconst (v := 2) C dL_law_1108 (by decide) ?_
  refine z_iadd C dL_law_1109 ?_
  refine z_sld C hX hbl hbA h2 dL_law_1110 ?_
  refine z_Vi (As := [.int (xs (zn (x3 + 1))), .int (xs (zn (x3 + 2)))]) C [] (wT g ma ha bd u) (wR g ra r) rfl (c_X7_segment l g ma ha bd u (xs (zn (x3 + 1))) (xs (zn (x3 + 2))) _ h) v_X7_segment mlL_123 7 (q := (RX7, TX7, 7)) rfl rfl 0 rfl ⟨Nat.le_of_ble_eq_true rfl, Nat.le_of_ble_eq_true rfl⟩ ⟨hk, hn⟩ (Nat.le_of_ble_eq_true rfl) rfl dL_law_1111 (fun r1 u1 h => ?_)
  refine z_ws (ws1 := wT g ma ha bd u1 ++ wR g ra r) rfl ?_
  refine z_aload_n C dL_law_1114 rfl 2 rfl ?_
  refine z_aload_n C dL_law_1115 rfl 0 rfl ?_
  refine z_iload_n C dL_law_1116 rfl 3 rfl ?_
  refine z_iconst (v := 1) C dL_law_1117 (by decide) ?_
  refine z_iadd C dL_law_1118 ?_
  refine z_sld C hX hbl hbA h1 dL_law_1119 ?_
  refine z_aload_n C dL_law_1120 rfl 0 rfl ?_
  refine z_iload_n C dL_law_1121 rfl 3 rfl ?_
  refine z_iconst (v := 2) C dL_law_1122 (by decide) ?_
  refine z_iadd C dL_law_1123 ?_
  refine z_sld C hX hbl hbA h2 dL_law_1124 ?_
  refine z_Vi (As := [.int (xs (zn (x3 + 1))), .int (xs (zn (x3 + 2)))]) C (wT g ma ha bd u1) (wR g ra r) [] (by rw [List.append_nil]) (c_X8_segment l g ra r (xs (zn (x3 + 1))) (xs (zn (x3 + 2))) _ h) v_X8_segment mlL_126 8 (q := (RX8, TX8, 20)) rfl rfl 0 rfl ⟨Nat.le_of_ble_eq_true rfl, Nat.le_of_ble_eq_true rfl⟩ ⟨hk, hn⟩ (Nat.le_of_ble_eq_true rfl) rfl dL_law_1125 (fun r2 v1 h => ?_)
  refine z_ws (ws1 := wT g ma ha bd u1 ++ wR g ra v1) (by rw [List.append_nil]) ?_
  exact z_icmp_eq C dL_law_1128 (tgt := 1460) (by decide) (fun _ => K u1 v1 h.2) (fun hc => absurd h.1 hc)
/-- given: both answer alike, and stay alike -/
def pX_given (Rel Rel1 : TS → RS → Prop) : Prop := ∀ (u : TS) (r : RS) (a1 : Int32), Rel u r → wp_X7_given u a1 (fun x u1 => wp_X8_given r a1 (fun y r1 => x = y ∧ Rel1 u1 r1))
set_option maxRecDepth 20000 in
theorem law_27 (C : zCL p s m b meth c g) (hX : va_X b L xs s s.heap) (hbl : b < s.heap.size) (hbA : ¬ AL s b) {Rel Rel1 : TS → RS → Prop} {u : TS} {r : RS} {x3 : Int32} {k n : Nat} (h1 : vp_in (x3 + 1) L) (h2 : vp_in (x3 + 2) L) (h3 : vp_in (x3 + 3) L) (h4 : vp_in (x3 + 4) L) (h5 : vp_in (x3 + 5) L) (hk : k + 26 ≤ 600000) (hn : n + 1308 ≤ 7302250) (h : pX_given Rel Rel1) (hr : Rel u r) (K : ∀ (u1 : TS) (v1 : RS), Rel1 u1 v1 → jL p l e s m below meth c g b ma ha ra bd u1 v1 x3 (k + 26) (n + 1308) 1460 []) : jL p l e s m below meth c g b ma ha ra bd u r x3 k n 1133 [] := by
  have h := h u r (xs (zn (x3 + 1))) hr
  refine z_wide (k1 := k + 26) (n1 := n + 1308) (Nat.le_add_right _ _) (Nat.le_add_right _ _) ?_
  refine z_aload_n C dL_law_1133 rfl 1 rfl ?_
  refine z_aload_n C dL_law_1134 rfl 0 rfl ?_
  refine z_iload_n C dL_law_1135 rfl 3 rfl ?_
  refine z_iconst (v := 1) C dL_law_1136 (by decide) ?_
  refine z_iadd C dL_law_1137 ?_
  refine z_sld C hX hbl hbA h1 dL_law_1138 ?_
  refine z_Vl (As := [.int (xs (zn (x3 + 1)))]) C [] (wT g ma ha bd u) (wR g ra r) rfl (c_X7_given l g ma ha bd u (xs (zn (x3 + 1))) _ h) v_X7_given mlL_127 7 (q := (RX7, TX7, 7)) rfl rfl 0 rfl ⟨Nat.le_of_ble_eq_true rfl, Nat.le_of_ble_eq_true rfl⟩ ⟨hk, hn⟩ (Nat.le_of_ble_eq_true rfl) rfl dL_law_1139 (fun r1 u1 h => ?_)
  refine z_ws (ws1 := wT g ma ha bd u1 ++ wR g ra r) rfl ?_
  refine z_aload_n C dL_law_1142 rfl 2 rfl ?_
  refine z_aload_n C dL_law_1143 rfl 0 rfl ?_
  refine z_iload_n C dL_law_1144 rfl 3 rfl ?_
  refine z_iconst (v := 1) C dL_law_1145 (by decide) ?_
  refine z_iadd C dL_law_1146 ?_
  refine z_sld C hX hbl hbA h1 dL_law_1147 ?_
  refine z_Vl (As := [.int (xs (zn (x3 + 1)))]) C (wT g ma ha bd u1) (wR g ra r) [] (by rw [List.append_nil]) (c_X8_given l g ra r (xs (zn (x3 + 1))) _ h) v_X8_given mlL_131 8 (q := (RX8, TX8, 20)) rfl rfl 0 rfl ⟨Nat.le_of_ble_eq_true rfl, Nat.le_of_ble_eq_true rfl⟩ ⟨hk, hn⟩ (Nat.le_of_ble_eq_true rfl) rfl dL_law_1148 (fun r2 v1 h => ?_)
  refine z_ws (ws1 := wT g ma ha bd u1 ++ wR g ra v1) (by rw [List.append_nil]) ?_
  refine z_lcmp C dL_law_1151 ?_
  exact z_if_eq C dL_law_1152 (tgt := 1460) (by decide) (fun _ => K u1 v1 h.2) (fun hc => absurd (by rw [h.1]; exact zcmp_self r2) hc)
/-- window: both answer alike, and stay alike -/
def pX_window (Rel Rel1 : TS → RS → Prop) : Prop := ∀ (u : TS) (r : RS) (a1 : Int32), Rel u r → wp_X7_window u a1 (fun x u1 => wp_X8_window r a1 (fun y r1 => x = y ∧ Rel1 u1 r1))
set_option maxRecDepth 20000 in
theorem law_28 (C : zCL p s m b meth c g) (hX : va_X b L xs s s.heap) (hbl : b < s.heap.size) (hbA : ¬ AL s b) {Rel Rel1 : TS → RS → Prop} {u : TS} {r : RS} {x3 : Int32} {k n : Nat} (h1 : vp_in (x3 + 1) L) (h2 : vp_in (x3 + 2) L) (h3 : vp_in (x3 + 3) L) (h4 : vp_in (x3 + 4) L) (h5 : vp_in (x3 + 5) L) (hk : k + 26 ≤ 600000) (hn : n + 1308 ≤ 7302250) (h : pX_window Rel Rel1) (hr : Rel u r) (K : ∀ (u1 : TS) (v1 : RS), Rel1 u1 v1 → jL p l e s m below meth c g b ma ha ra bd u1 v1 x3 (k + 26) (n + 1308) 1460 []) : jL p l e s m below meth c g b ma ha ra bd u r x3 k n 1157 [] := by
  have h := h u r (xs (zn (x3 + 1))) hr
  refine z_wide (k1 := k + 26) (n1 := n + 1308) (Nat.le_add_right _ _) (Nat.le_add_right _ _) ?_
  refine z_aload_n C dL_law_1157 rfl 1 rfl ?_
  refine z_aload_n C dL_law_1158 rfl 0 rfl ?_
  refine z_iload_n C dL_law_1159 rfl 3 rfl ?_
  refine z_iconst (v := 1) C dL_law_1160 (by decide) ?_
  refine z_iadd C dL_law_1161 ?_
  refine z_sld C hX hbl hbA h1 dL_law_1162 ?_
  refine z_Vi (As := [.int (xs (zn (x3 + 1)))]) C [] (wT g ma ha bd u) (wR g ra r) rfl (c_X7_window l g ma ha bd u (xs (zn (x3 + 1))) _ h) v_X7_window mlL_132 7 (q := (RX7, TX7, 7)) rfl rfl 0 rfl ⟨Nat.le_of_ble_eq_true rfl, Nat.le_of_ble_eq_true rfl⟩ ⟨hk, hn⟩ (Nat.le_of_ble_eq_true rfl) rfl dL_law_1163 (fun r1 u1 h => ?_)
  refine z_ws (ws1 := wT g ma ha bd u1 ++ wR g ra r) rfl ?_
  refine z_aload_n C dL_law_1166 rfl 2 rfl ?_
  refine z_aload_n C dL_law_1167 rfl 0 rfl ?_
  refine z_iload_n C dL_law_1168 rfl 3 rfl ?_
  refine z_iconst (v := 1) C dL_law_1169 (by decide) ?_
  refine z_iadd C dL_law_1170 ?_
  refine z_sld C hX hbl hbA h1 dL_law_1171 ?_
  refine z_Vi (As := [.int (xs (zn (x3 + 1)))]) C (wT g ma ha bd u1) (wR g ra r) [] (by rw [List.append_nil]) (c_X8_window l g ra r (xs (zn (x3 + 1))) _ h) v_X8_window mlL_135 8 (q := (RX8, TX8, 20)) rfl rfl 0 rfl ⟨Nat.le_of_ble_eq_true rfl, Nat.le_of_ble_eq_true rfl⟩ ⟨hk, hn⟩ (Nat.le_of_ble_eq_true rfl) rfl dL_law_1172 (fun r2 v1 h => ?_)
  refine z_ws (ws1 := wT g ma ha bd u1 ++ wR g ra v1) (by rw [List.append_nil]) ?_
  exact z_icmp_eq C dL_law_1175 (tgt := 1460) (by decide) (fun _ => K u1 v1 h.2) (fun hc => absurd h.1 hc)
/-- isBothWays: both answer alike, and stay alike -/
def pX_isBothWays (Rel Rel1 : TS → RS → Prop) : Prop := ∀ (u : TS) (r : RS), Rel u r → wp_X7_isBothWays u (fun x u1 => wp_X8_isBothWays r (fun y r1 => x = y ∧ Rel1 u1 r1))
set_option maxRecDepth 20000 in
theorem law_29 (C : zCL p s m b meth c g) (hX : va_X b L xs s s.heap) (hbl : b < s.heap.size) (hbA : ¬ AL s b) {Rel Rel1 : TS → RS → Prop} {u : TS} {r : RS} {x3 : Int32} {k n : Nat} (h1 : vp_in (x3 + 1) L) (h2 : vp_in (x3 + 2) L) (h3 : vp_in (x3 + 3) L) (h4 : vp_in (x3 + 4) L) (h5 : vp_in (x3 + 5) L) (hk : k + 26 ≤ 600000) (hn : n + 1308 ≤ 7302250) (h : pX_isBothWays Rel Rel1) (hr : Rel u r) (K : ∀ (u1 : TS) (v1 : RS), Rel1 u1 v1 → jL p l e s m below meth c g b ma ha ra bd u1 v1 x3 (k + 26) (n + 1308) 1460 []) : jL p l e s m below meth c g b ma ha ra bd u r x3 k n 1180 [] := by
  have h := h u r hr
  refine z_wide (k1 := k + 26) (n1 := n + 1308) (Nat.le_add_right _ _) (Nat.le_add_right _ _) ?_
  refine z_aload_n C dL_law_1180 rfl 1 rfl ?_
  refine z_Vi (As := []) C [] (wT g ma ha bd u) (wR g ra r) rfl (c_X7_isBothWays l g ma ha bd u _ h) v_X7_isBothWays mlL_136 7 (q := (RX7, TX7, 7)) rfl rfl 0 rfl ⟨Nat.le_of_ble_eq_true rfl, Nat.le_of_ble_eq_true rfl⟩ ⟨hk, hn⟩ (Nat.le_of_ble_eq_true rfl) rfl dL_law_1181 (fun r1 u1 h => ?_)
  refine z_ws (ws1 := wT g ma ha bd u1 ++ wR g ra r) rfl ?_
  refine z_aload_n C dL_law_1184 rfl 2 rfl ?_
  refine z_Vi (As := []) C (wT g ma ha bd u1) (wR g ra r) [] (by rw [List.append_nil]) (c_X8_isBothWays l g ra r _ h) v_X8_isBothWays mlL_140 8 (q := (RX8, TX8, 20)) rfl rfl 0 rfl ⟨Nat.le_of_ble_eq_true rfl, Nat.le_of_ble_eq_true rfl⟩ ⟨hk, hn⟩ (Nat.le_of_ble_eq_true rfl) rfl dL_law_1185 (fun r2 v1 h => ?_)
  refine z_ws (ws1 := wT g ma ha bd u1 ++ wR g ra v1) (by rw [List.append_nil]) ?_
  exact z_icmp_eq C dL_law_1188 (tgt := 1460) (by decide) (fun _ => K u1 v1 h.2) (fun hc => absurd h.1 hc)
/-- reach: both answer alike, and stay alike -/
def pX_reach (Rel Rel1 : TS → RS → Prop) : Prop := ∀ (u : TS) (r : RS), Rel u r → wp_X7_reach u (fun x u1 => wp_X8_reach r (fun y r1 => x = y ∧ Rel1 u1 r1))
set_option maxRecDepth 20000 in
theorem law_30 (C : zCL p s m b meth c g) (hX : va_X b L xs s s.heap) (hbl : b < s.heap.size) (hbA : ¬ AL s b) {Rel Rel1 : TS → RS → Prop} {u : TS} {r : RS} {x3 : Int32} {k n : Nat} (h1 : vp_in (x3 + 1) L) (h2 : vp_in (x3 + 2) L) (h3 : vp_in (x3 + 3) L) (h4 : vp_in (x3 + 4) L) (h5 : vp_in (x3 + 5) L) (hk : k + 26 ≤ 600000) (hn : n + 1308 ≤ 7302250) (h : pX_reach Rel Rel1) (hr : Rel u r) (K : ∀ (u1 : TS) (v1 : RS), Rel1 u1 v1 → jL p l e s m below meth c g b ma ha ra bd u1 v1 x3 (k + 26) (n + 1308) 1460 []) : jL p l e s m below meth c g b ma ha ra bd u r x3 k n 1193 [] := by
  have h := h u r hr
  refine z_wide (k1 := k + 26) (n1 := n + 1308) (Nat.le_add_right _ _) (Nat.le_add_right _ _) ?_
  refine z_aload_n C dL_law_1193 rfl 1 rfl ?_
  refine z_Vi (As := []) C [] (wT g ma ha bd u) (wR g ra r) rfl (c_X7_reach l g ma ha bd u _ h) v_X7_reach mlL_141 7 (q := (RX7, TX7, 7)) rfl rfl 0 rfl ⟨Nat.le_of_ble_eq_true rfl, Nat.le_of_ble_eq_true rfl⟩ ⟨hk, hn⟩ (Nat.le_of_ble_eq_true rfl) rfl dL_law_1194 (fun r1 u1 h => ?_)
  refine z_ws (ws1 := wT g ma ha bd u1 ++ wR g ra r) rfl ?_
  refine z_aload_n C dL_law_1197 rfl 2 rfl ?_
  refine z_Vi (As := []) C (wT g ma ha bd u1) (wR g ra r) [] (by rw [List.append_nil]) (c_X8_reach l g ra r _ h) v_X8_reach mlL_144 8 (q := (RX8, TX8, 20)) rfl rfl 0 rfl ⟨Nat.le_of_ble_eq_true rfl, Nat.le_of_ble_eq_true rfl⟩ ⟨hk, hn⟩ (Nat.le_of_ble_eq_true rfl) rfl dL_law_1198 (fun r2 v1 h => ?_)
  refine z_ws (ws1 := wT g ma ha bd u1 ++ wR g ra v1) (by rw [List.append_nil]) ?_
  exact z_icmp_eq C dL_law_1201 (tgt := 1460) (by decide) (fun _ => K u1 v1 h.2) (fun hc => absurd h.1 hc)
/-- aim: both answer alike, and stay alike -/
def pX_aim (Rel Rel1 : TS → RS → Prop) : Prop := ∀ (u : TS) (r : RS) (a1 a2 : Int32), Rel u r → wp_X7_aim u a1 a2 (fun x u1 => wp_X8_aim r a1 a2 (fun y r1 => x = y ∧ Rel1 u1 r1))
set_option maxRecDepth 20000 in
theorem law_31 (C : zCL p s m b meth c g) (hX : va_X b L xs s s.heap) (hbl : b < s.heap.size) (hbA : ¬ AL s b) {Rel Rel1 : TS → RS → Prop} {u : TS} {r : RS} {x3 : Int32} {k n : Nat} (h1 : vp_in (x3 + 1) L) (h2 : vp_in (x3 + 2) L) (h3 : vp_in (x3 + 3) L) (h4 : vp_in (x3 + 4) L) (h5 : vp_in (x3 + 5) L) (hk : k + 26 ≤ 600000) (hn : n + 1308 ≤ 7302250) (h : pX_aim Rel Rel1) (hr : Rel u r) (K : ∀ (u1 : TS) (v1 : RS), Rel1 u1 v1 → jL p l e s m below meth c g b ma ha ra bd u1 v1 x3 (k + 26) (n + 1308) 1460 []) : jL p l e s m below meth c g b ma ha ra bd u r x3 k n 1206 [] := by
  have h := h u r (xs (zn (x3 + 1))) (xs (zn (x3 + 2))) hr
  refine z_wide (k1 := k + 26) (n1 := n + 1308) (Nat.le_add_right _ _) (Nat.le_add_right _ _) ?_
  refine z_aload_n C dL_law_1206 rfl 1 rfl ?_
  refine z_aload_n C dL_law_1207 rfl 0 rfl ?_
  refine z_iload_n C dL_law_1208 rfl 3 rfl ?_
  refine z_iconst (v := 1) C dL_law_1209 (by decide) ?_
  refine z_iadd C dL_law_1210 ?_
  refine z_sld C hX hbl hbA h1 dL_law_1211 ?_
  refine z_aload_n C dL_law_1212 rfl 0 rfl ?_
  refine z_iload_n C dL_law_1213 rfl 3 rfl ?_
  refine z_iconst (v := 2) C dL_law_1214 (by decide) ?_
  refine z_iadd C dL_law_1215 ?_
  refine z_sld C hX hbl hbA h2 dL_law_1216 ?_
  refine z_Vi (As := [.int (xs (zn (x3 + 1))), .int (xs (zn (x3 + 2)))]) C [] (wT g ma ha bd u) (wR g ra r) rfl (c_X7_aim l g ma ha bd u (xs (zn (x3 + 1))) (xs (zn (x3 + 2))) _ h) v_X7_aim mlL_145 7 (q := (RX7, TX7, 7)) rfl rfl 0 rfl ⟨Nat.le_of_ble_eq_true rfl, Nat.le_of_ble_eq_true rfl⟩ ⟨hk, hn⟩ (Nat.le_of_ble_eq_true rfl) rfl dL_law_1217 (fun r1 u1 h => ?_)
  refine z_ws (ws1 := wT g ma ha bd u1 ++ wR g ra r) rfl ?_
  refine z_aload_n C dL_law_1220 rfl 2 rfl ?_
  refine z_aload_n C dL_law_1221 rfl 0 rfl ?_
  refine z_iload_n C dL_law_1222 rfl 3 rfl ?_
  refine z_iconst (v := 1) C dL_law_1223 (by decide) ?_
  refine z_iadd C dL_law_1224 ?_
  refine z_sld C hX hbl hbA h1 dL_law_1225 ?_
  refine z_aload_n C dL_law_1226 rfl 0 rfl ?_
  refine z_iload_n C dL_law_1227 rfl 3 rfl ?_
  refine z_iconst (v := 2) C dL_law_1228 (by decide) ?_
  refine z_iadd C dL_law_1229 ?_
  refine z_sld C hX hbl hbA h2 dL_law_1230 ?_
  refine z_Vi (As := [.int (xs (zn (x3 + 1))), .int (xs (zn (x3 + 2)))]) C (wT g ma ha bd u1) (wR g ra r) [] (by rw [List.append_nil]) (c_X8_aim l g ra r (xs (zn (x3 + 1))) (xs (zn (x3 + 2))) _ h) v_X8_aim mlL_148 8 (q := (RX8, TX8, 20)) rfl rfl 0 rfl ⟨Nat.le_of_ble_eq_true rfl, Nat.le_of_ble_eq_true rfl⟩ ⟨hk, hn⟩ (Nat.le_of_ble_eq_true rfl) rfl dL_law_1231 (fun r2 v1 h => ?_)
  refine z_ws (ws1 := wT g ma ha bd u1 ++ wR g ra v1) (by rw [List.append_nil]) ?_
  exact z_icmp_eq C dL_law_1234 (tgt := 1460) (by decide) (fun _ => K u1 v1 h.2) (fun hc => absurd h.1 hc)
/-- spread: both answer alike, and stay alike -/
def pX_spread (Rel Rel1 : TS → RS → Prop) : Prop := ∀ (u : TS) (r : RS) (a1 : Int32), Rel u r → wp_X7_spread u a1 (fun x u1 => wp_X8_spread r a1 (fun y r1 => x = y ∧ Rel1 u1 r1))
set_option maxRecDepth 20000 in
theorem law_32 (C : zCL p s m b meth c g) (hX : va_X b L xs s s.heap) (hbl : b < s.heap.size) (hbA : ¬ AL s b) {Rel Rel1 : TS → RS → Prop} {u : TS} {r : RS} {x3 : Int32} {k n : Nat} (h1 : vp_in (x3 + 1) L) (h2 : vp_in (x3 + 2) L) (h3 : vp_in (x3 + 3) L) (h4 : vp_in (x3 + 4) L) (h5 : vp_in (x3 + 5) L) (hk : k + 26 ≤ 600000) (hn : n + 1308 ≤ 7302250) (h : pX_spread Rel Rel1) (hr : Rel u r) (K : ∀ (u1 : TS) (v1 : RS), Rel1 u1 v1 → jL p l e s m below meth c g b ma ha ra bd u1 v1 x3 (k + 26) (n + 1308) 1460 []) : jL p l e s m below meth c g b ma ha ra bd u r x3 k n 1239 [] := by
  have h := h u r (xs (zn (x3 + 1))) hr
  refine z_wide (k1 := k + 26) (n1 := n + 1308) (Nat.le_add_right _ _) (Nat.le_add_right _ _) ?_
  refine z_aload_n C dL_law_1239 rfl 1 rfl ?_
  refine z_aload_n C dL_law_1240 rfl 0 rfl ?_
  refine z_iload_n C dL_law_1241 rfl 3 rfl ?_
  refine z_iconst (v := 1) C dL_law_1242 (by decide) ?_
  refine z_iadd C dL_law_1243 ?_
  refine z_sld C hX hbl hbA h1 dL_law_1244 ?_
  refine z_Vi (As := [.int (xs (zn (x3 + 1)))]) C [] (wT g ma ha bd u) (wR g ra r) rfl (c_X7_spread l g ma ha bd u (xs (zn (x3 + 1))) _ h) v_X7_spread mlL_149 7 (q := (RX7, TX7, 7)) rfl rfl 0 rfl ⟨Nat.le_of_ble_eq_true rfl, Nat.le_of_ble_eq_true rfl⟩ ⟨hk, hn⟩ (Nat.le_of_ble_eq_true rfl) rfl dL_law_1245 (fun r1 u1 h => ?_)
  refine z_ws (ws1 := wT g ma ha bd u1 ++ wR g ra r) rfl ?_
  refine z_aload_n C dL_law_1248 rfl 2 rfl ?_
  refine z_aload_n C dL_law_1249 rfl 0 rfl ?_
  refine z_iload_n C dL_law_1250 rfl 3 rfl ?_
  refine z_iconst (v := 1) C dL_law_1251 (by decide) ?_
  refine z_iadd C dL_law_1252 ?_
  refine z_sld C hX hbl hbA h1 dL_law_1253 ?_
  refine z_Vi (As := [.int (xs (zn (x3 + 1)))]) C (wT g ma ha bd u1) (wR g ra r) [] (by rw [List.append_nil]) (c_X8_spread l g ra r (xs (zn (x3 + 1))) _ h) v_X8_spread mlL_152 8 (q := (RX8, TX8, 20)) rfl rfl 0 rfl ⟨Nat.le_of_ble_eq_true rfl, Nat.le_of_ble_eq_true rfl⟩ ⟨hk, hn⟩ (Nat.le_of_ble_eq_true rfl) rfl dL_law_1254 (fun r2 v1 h => ?_)
  refine z_ws (ws1 := wT g ma ha bd u1 ++ wR g ra v1) (by rw [List.append_nil]) ?_
  exact z_icmp_eq C dL_law_1257 (tgt := 1460) (by decide) (fun _ => K u1 v1 h.2) (fun hc => absurd h.1 hc)
/-- ratio: both answer alike, and stay alike -/
def pX_ratio (Rel Rel1 : TS → RS → Prop) : Prop := ∀ (u : TS) (r : RS) (a1 : Int32), Rel u r → wp_X7_ratio u a1 (fun x u1 => wp_X8_ratio r a1 (fun y r1 => x = y ∧ Rel1 u1 r1))
set_option maxRecDepth 20000 in
theorem law_33 (C : zCL p s m b meth c g) (hX : va_X b L xs s s.heap) (hbl : b < s.heap.size) (hbA : ¬ AL s b) {Rel Rel1 : TS → RS → Prop} {u : TS} {r : RS} {x3 : Int32} {k n : Nat} (h1 : vp_in (x3 + 1) L) (h2 : vp_in (x3 + 2) L) (h3 : vp_in (x3 + 3) L) (h4 : vp_in (x3 + 4) L) (h5 : vp_in (x3 + 5) L) (hk : k + 26 ≤ 600000) (hn : n + 1308 ≤ 7302250) (h : pX_ratio Rel Rel1) (hr : Rel u r) (K : ∀ (u1 : TS) (v1 : RS), Rel1 u1 v1 → jL p l e s m below meth c g b ma ha ra bd u1 v1 x3 (k + 26) (n + 1308) 1460 []) : jL p l e s m below meth c g b ma ha ra bd u r x3 k n 1262 [] := by
  have h := h u r (xs (zn (x3 + 1))) hr
  refine z_wide (k1 := k + 26) (n1 := n + 1308) (Nat.le_add_right _ _) (Nat.le_add_right _ _) ?_
  refine z_aload_n C dL_law_1262 rfl 1 rfl ?_
  refine z_aload_n C dL_law_1263 rfl 0 rfl ?_
  refine z_iload_n C dL_law_1264 rfl 3 rfl ?_
  refine z_iconst (v := 1) C dL_law_1265 (by decide) ?_
  refine z_iadd C dL_law_1266 ?_
  refine z_sld C hX hbl hbA h1 dL_law_1267 ?_
  refine z_Vl (As := [.int (xs (zn (x3 + 1)))]) C [] (wT g ma ha bd u) (wR g ra r) rfl (c_X7_ratio l g ma ha bd u (xs (zn (x3 + 1))) _ h) v_X7_ratio mlL_153 7 (q := (RX7, TX7, 7)) rfl rfl 0 rfl ⟨Nat.le_of_ble_eq_true rfl, Nat.le_of_ble_eq_true rfl⟩ ⟨hk, hn⟩ (Nat.le_of_ble_eq_true rfl) rfl dL_law_1268 (fun r1 u1 h => ?_)
  refine z_ws (ws1 := wT g ma ha bd u1 ++ wR g ra r) rfl ?_
  refine z_aload_n C dL_law_1271 rfl 2 rfl ?_
  refine z_aload_n C dL_law_1272 rfl 0 rfl ?_
  refine z_iload_n C dL_law_1273 rfl 3 rfl ?_
  refine z_iconst (v := 1) C dL_law_1274 (by decide) ?_
  refine z_iadd C dL_law_1275 ?_
  refine z_sld C hX hbl hbA h1 dL_law_1276 ?_
  refine z_Vl (As := [.int (xs (zn (x3 + 1)))]) C (wT g ma ha bd u1) (wR g ra r) [] (by rw [List.append_nil]) (c_X8_ratio l g ra r (xs (zn (x3 + 1))) _ h) v_X8_ratio mlL_156 8 (q := (RX8, TX8, 20)) rfl rfl 0 rfl ⟨Nat.le_of_ble_eq_true rfl, Nat.le_of_ble_eq_true rfl⟩ ⟨hk, hn⟩ (Nat.le_of_ble_eq_true rfl) rfl dL_law_1277 (fun r2 v1 h => ?_)
  refine z_ws (ws1 := wT g ma ha bd u1 ++ wR g ra v1) (by rw [List.append_nil]) ?_
  refine z_lcmp C dL_law_1280 ?_
  exact z_if_eq C dL_law_1281 (tgt := 1460) (by decide) (fun _ => K u1 v1 h.2) (fun hc => absurd (by rw [h.1]; exact zcmp_self r2) hc)
/-- alike: both answer alike, and stay alike -/
def pX_alike (Rel Rel1 : TS → RS → Prop) : Prop := ∀ (u : TS) (r : RS), Rel u r → wp_X7_alike u (fun x u1 => wp_X8_alike r (fun y r1 => x = y ∧ Rel1 u1 r1))
set_option maxRecDepth 20000 in
theorem law_34 (C : zCL p s m b meth c g) (hX : va_X b L xs s s.heap) (hbl : b < s.heap.size) (hbA : ¬ AL s b) {Rel Rel1 : TS → RS → Prop} {u : TS} {r : RS} {x3 : Int32} {k n : Nat} (h1 : vp_in (x3 + 1) L) (h2 : vp_in (x3 + 2) L) (h3 : vp_in (x3 + 3) L) (h4 : vp_in (x3 + 4) L) (h5 : vp_in (x3 + 5) L) (hk : k + 26 ≤ 600000) (hn : n + 1308 ≤ 7302250) (h : pX_alike Rel Rel1) (hr : Rel u r) (K : ∀ (u1 : TS) (v1 : RS), Rel1 u1 v1 → jL p l e s m below meth c g b ma ha ra bd u1 v1 x3 (k + 26) (n + 1308) 1460 []) : jL p l e s m below meth c g b ma ha ra bd u r x3 k n 1286 [] := by
  have h := h u r hr
  refine z_wide (k1 := k + 26) (n1 := n + 1308) (Nat.le_add_right _ _) (Nat.le_add_right _ _) ?_
  refine z_aload_n C dL_law_1286 rfl 1 rfl ?_
  refine z_Vi (As := []) C [] (wT g ma ha bd u) (wR g ra r) rfl (c_X7_alike l g ma ha bd u _ h) v_X7_alike mlL_157 7 (q := (RX7, TX7, 7)) rfl rfl 0 rfl ⟨Nat.le_of_ble_eq_true rfl, Nat.le_of_ble_eq_true rfl⟩ ⟨hk, hn⟩ (Nat.le_of_ble_eq_true rfl) rfl dL_law_1287 (fun r1 u1 h => ?_)
  refine z_ws (ws1 := wT g ma ha bd u1 ++ wR g ra r) rfl ?_
  refine z_aload_n C dL_law_1290 rfl 2 rfl ?_
  refine z_Vi (As := []) C (wT g ma ha bd u1) (wR g ra r) [] (by rw [List.append_nil]) (c_X8_alike l g ra r _ h) v_X8_alike mlL_160 8 (q := (RX8, TX8, 20)) rfl rfl 0 rfl ⟨Nat.le_of_ble_eq_true rfl, Nat.le_of_ble_eq_true rfl⟩ ⟨hk, hn⟩ (Nat.le_of_ble_eq_true rfl) rfl dL_law_1291 (fun r2 v1 h => ?_)
  refine z_ws (ws1 := wT g ma ha bd u1 ++ wR g ra v1) (by rw [List.append_nil]) ?_
  exact z_icmp_eq C dL_law_1294 (tgt := 1460) (by decide) (fun _ => K u1 v1 h.2) (fun hc => absurd h.1 hc)
/-- load: both answer alike, and stay alike -/
def pX_load (Rel Rel1 : TS → RS → Prop) : Prop := ∀ (u : TS) (r : RS) (a1 : Int32), Rel u r → wp_X7_load u a1 (fun x u1 => wp_X8_load r a1 (fun y r1 => x = y ∧ Rel1 u1 r1))
set_option maxRecDepth 20000 in
theorem law_35 (C : zCL p s m b meth c g) (hX : va_X b L xs s s.heap) (hbl : b < s.heap.size) (hbA : ¬ AL s b) {Rel Rel1 : TS → RS → Prop} {u : TS} {r : RS} {x3 : Int32} {k n : Nat} (h1 : vp_in (x3 + 1) L) (h2 : vp_in (x3 + 2) L) (h3 : vp_in (x3 + 3) L) (h4 : vp_in (x3 + 4) L) (h5 : vp_in (x3 + 5) L) (hk : k + 26 ≤ 600000) (hn : n + 1308 ≤ 7302250) (h : pX_load Rel Rel1) (hr : Rel u r) (K : ∀ (u1 : TS) (v1 : RS), Rel1 u1 v1 → jL p l e s m below meth c g b ma ha ra bd u1 v1 x3 (k + 26) (n + 1308) 1460 []) : jL p l e s m below meth c g b ma ha ra bd u r x3 k n 1299 [] := by
  have h := h u r (xs (zn (x3 + 1))) hr
  refine z_aload_n C dL_law_1299 rfl 1 rfl ?_
  refine z_aload_n C dL_law_1300 rfl 0 rfl ?_
  refine z_iload_n C dL_law_1301 rfl 3 rfl ?_
  refine z_iconst (v := 1) C dL_law_1302 (by decide) ?_
  refine z_iadd C dL_law_1303 ?_
  refine z_sld C hX hbl hbA h1 dL_law_1304 ?_
  refine z_Vi (As := [.int (xs (zn (x3 + 1)))]) C [] (wT g ma ha bd u) (wR g ra r) rfl (c_X7_load l g ma ha bd u (xs (zn (x3 + 1))) _ h) v_X7_load mlL_161 7 (q := (RX7, TX7, 7)) rfl rfl 0 rfl ⟨Nat.le_of_ble_eq_true rfl, Nat.le_of_ble_eq_true rfl⟩ ⟨hk, hn⟩ (Nat.le_of_ble_eq_true rfl) rfl dL_law_1305 (fun r1 u1 h => ?_)
  refine z_ws (ws1 := wT g ma ha bd u1 ++ wR g ra r) rfl ?_
  refine z_aload_n C dL_law_1308 rfl 2 rfl ?_
  refine z_aload_n C dL_law_1309 rfl 0 rfl ?_
  refine z_iload_n C dL_law_1310 rfl 3 rfl ?_
  refine z_iconst (v := 1) C dL_law_1311 (by decide) ?_
  refine z_iadd C dL_law_1312 ?_
  refine z_sld C hX hbl hbA h1 dL_law_1313 ?_
  refine z_Vi (As := [.int (xs (zn (x3 + 1)))]) C (wT g ma ha bd u1) (wR g ra r) [] (by rw [List.append_nil]) (c_X8_load l g ra r (xs (zn (x3 + 1))) _ h) v_X8_load mlL_164 8 (q := (RX8, TX8, 20)) rfl rfl 0 rfl ⟨Nat.le_of_ble_eq_true rfl, Nat.le_of_ble_eq_true rfl⟩ ⟨hk, hn⟩ (Nat.le_of_ble_eq_true rfl) rfl dL_law_1314 (fun r2 v1 h => ?_)
  refine z_ws (ws1 := wT g ma ha bd u1 ++ wR g ra v1) (by rw [List.append_nil]) ?_
  exact z_icmp_eq C dL_law_1317 (tgt := 1460) (by decide) (fun _ => K u1 v1 h.2) (fun hc => absurd h.1 hc)
/-- would: both answer alike, and stay alike -/
def pX_would (Rel Rel1 : TS → RS → Prop) : Prop := ∀ (u : TS) (r : RS) (a1 a2 : Int32), Rel u r → wp_X7_would u a1 a2 (fun x u1 => wp_X8_would r a1 a2 (fun y r1 => x = y ∧ Rel1 u1 r1))
set_option maxRecDepth 20000 in
theorem law_36 (C : zCL p s m b meth c g) (hX : va_X b L xs s s.heap) (hbl : b < s.heap.size) (hbA : ¬ AL s b) {Rel Rel1 : TS → RS → Prop} {u : TS} {r : RS} {x3 : Int32} {k n : Nat} (h1 : vp_in (x3 + 1) L) (h2 : vp_in (x3 + 2) L) (h3 : vp_in (x3 + 3) L) (h4 : vp_in (x3 + 4) L) (h5 : vp_in (x3 + 5) L) (hk : k + 26 ≤ 600000) (hn : n + 1308 ≤ 7302250) (h : pX_would Rel Rel1) (hr : Rel u r) (K : ∀ (u1 : TS) (v1 : RS), Rel1 u1 v1 → jL p l e s m below meth c g b ma ha ra bd u1 v1 x3 (k + 26) (n + 1308) 1460 []) : jL p l e s m below meth c g b ma ha ra bd u r x3 k n 1322 [] := by
  have h := h u r (xs (zn (x3 + 1))) (xs (zn (x3 + 2))) hr
  refine z_aload_n C dL_law_1322 rfl 1 rfl ?_
  refine z_aload_n C dL_law_1323 rfl 0 rfl ?_
  refine z_iload_n C dL_law_1324 rfl 3 rfl ?_
  refine z_iconst (v := 1) C dL_law_1325 (by decide) ?_
  refine z_iadd C dL_law_1326 ?_
  refine z_sld C hX hbl hbA h1 dL_law_1327 ?_
  refine z_aload_n C dL_law_1328 rfl 0 rfl ?_
  refine z_iload_n C dL_law_1329 rfl 3 rfl ?_
  refine z_iconst (v := 2) C dL_law_1330 (by decide) ?_
  refine z_iadd C dL_law_1331 ?_
  refine z_sld C hX hbl hbA h2 dL_law_1332 ?_
  refine z_Vi (As := [.int (xs (zn (x3 + 1))), .int (xs (zn (x3 + 2)))]) C [] (wT g ma ha bd u) (wR g ra r) rfl (c_X7_would l g ma ha bd u (xs (zn (x3 + 1))) (xs (zn (x3 + 2))) _ h) v_X7_would mlL_165 7 (q := (RX7, TX7, 7)) rfl rfl 0 rfl ⟨Nat.le_of_ble_eq_true rfl, Nat.le_of_ble_eq_true rfl⟩ ⟨hk, hn⟩ (Nat.le_of_ble_eq_true rfl) rfl dL_law_1333 (fun r1 u1 h => ?_)
  refine z_ws (ws1 := wT g ma ha bd u1 ++ wR g ra r) rfl ?_
  refine z_aload_n C dL_law_1336 rfl 2 rfl ?_
  refine z_aload_n C dL_law_1337 rfl 0 rfl ?_
  refine z_iload_n C dL_law_1338 rfl 3 rfl ?_
  refine z_iconst (v := 1) C dL_law_1339 (by decide) ?_
  refine z_iadd C dL_law_1340 ?_
  refine z_sld C hX hbl hbA h1 dL_law_1341 ?_
  refine z_aload_n C dL_law_1342 rfl 0 rfl ?_
  refine z_iload_n C dL_law_1343 rfl 3 rfl ?_
  refine z_iconst (v := 2) C dL_law_1344 (by decide) ?_
  refine z_iadd C dL_law_1345 ?_
  refine z_sld C hX hbl hbA h2 dL_law_1346 ?_
  refine z_Vi (As := [.int (xs (zn (x3 + 1))), .int (xs (zn (x3 + 2)))]) C (wT g ma ha bd u1) (wR g ra r) [] (by rw [List.append_nil]) (c_X8_would l g ra r (xs (zn (x3 + 1))) (xs (zn (x3 + 2))) _ h) v_X8_would mlL_168 8 (q := (RX8, TX8, 20)) rfl rfl 0 rfl ⟨Nat.le_of_ble_eq_true rfl, Nat.le_of_ble_eq_true rfl⟩ ⟨hk, hn⟩ (Nat.le_of_ble_eq_true rfl) rfl dL_law_1347 (fun r2 v1 h => ?_)
  refine z_ws (ws1 := wT g ma ha bd u1 ++ wR g ra v1) (by rw [List.append_nil]) ?_
  exact z_icmp_eq C dL_law_1350 (tgt := 1460) (by decide) (fun _ => K u1 v1 h.2) (fun hc => absurd h.1 hc)
/-- drain: both answer alike, and stay alike -/
def pX_drain (Rel Rel1 : TS → RS → Prop) : Prop := ∀ (u : TS) (r : RS), Rel u r → wp_X7_drain u (fun x u1 => wp_X8_drain r (fun y r1 => x = y ∧ Rel1 u1 r1))
set_option maxRecDepth 20000 in
theorem law_37 (C : zCL p s m b meth c g) (hX : va_X b L xs s s.heap) (hbl : b < s.heap.size) (hbA : ¬ AL s b) {Rel Rel1 : TS → RS → Prop} {u : TS} {r : RS} {x3 : Int32} {k n : Nat} (h1 : vp_in (x3 + 1) L) (h2 : vp_in (x3 + 2) L) (h3 : vp_in (x3 + 3) L) (h4 : vp_in (x3 + 4) L) (h5 : vp_in (x3 + 5) L) (hk : k + 26 ≤ 600000) (hn : n + 1308 ≤ 7302250) (h : pX_drain Rel Rel1) (hr : Rel u r) (K : ∀ (u1 : TS) (v1 : RS), Rel1 u1 v1 → jL p l e s m below meth c g b ma ha ra bd u1 v1 x3 (k + 26) (n + 1308) 1460 []) : jL p l e s m below meth c g b ma ha ra bd u r x3 k n 1355 [] := by
  have h := h u r hr
  refine z_aload_n C dL_law_1355 rfl 1 rfl ?_
  refine z_Vi (As := []) C [] (wT g ma ha bd u) (wR g ra r) rfl (c_X7_drain l g ma ha bd u _ h) v_X7_drain mlL_169 7 (q := (RX7, TX7, 7)) rfl rfl 0 rfl ⟨Nat.le_of_ble_eq_true rfl, Nat.le_of_ble_eq_true rfl⟩ ⟨hk, hn⟩ (Nat.le_of_ble_eq_true rfl) rfl dL_law_1356 (fun r1 u1 h => ?_)
  refine z_ws (ws1 := wT g ma ha bd u1 ++ wR g ra r) rfl ?_
  refine z_aload_n C dL_law_1359 rfl 2 rfl ?_
  refine z_Vi (As := []) C (wT g ma ha bd u1) (wR g ra r) [] (by rw [List.append_nil]) (c_X8_drain l g ra r _ h) v_X8_drain mlL_172 8 (q := (RX8, TX8, 20)) rfl rfl 0 rfl ⟨Nat.le_of_ble_eq_true rfl, Nat.le_of_ble_eq_true rfl⟩ ⟨hk, hn⟩ (Nat.le_of_ble_eq_true rfl) rfl dL_law_1360 (fun r2 v1 h => ?_)
  refine z_ws (ws1 := wT g ma ha bd u1 ++ wR g ra v1) (by rw [List.append_nil]) ?_
  exact z_icmp_eq C dL_law_1363 (tgt := 1460) (by decide) (fun _ => K u1 v1 h.2) (fun hc => absurd h.1 hc)
/-- nextCall: both answer alike, and stay alike -/
def pX_nextCall (Rel Rel1 : TS → RS → Prop) : Prop := ∀ (u : TS) (r : RS) (a1 : Int32), Rel u r → wp_X7_nextCall u a1 (fun x u1 => wp_X8_nextCall r a1 (fun y r1 => x = y ∧ Rel1 u1 r1))
set_option maxRecDepth 20000 in
theorem law_38 (C : zCL p s m b meth c g) (hX : va_X b L xs s s.heap) (hbl : b < s.heap.size) (hbA : ¬ AL s b) {Rel Rel1 : TS → RS → Prop} {u : TS} {r : RS} {x3 : Int32} {k n : Nat} (h1 : vp_in (x3 + 1) L) (h2 : vp_in (x3 + 2) L) (h3 : vp_in (x3 + 3) L) (h4 : vp_in (x3 + 4) L) (h5 : vp_in (x3 + 5) L) (hk : k + 26 ≤ 600000) (hn : n + 1308 ≤ 7302250) (h : pX_nextCall Rel Rel1) (hr : Rel u r) (K : ∀ (u1 : TS) (v1 : RS), Rel1 u1 v1 → jL p l e s m below meth c g b ma ha ra bd u1 v1 x3 (k + 26) (n + 1308) 1460 []) : jL p l e s m below meth c g b ma ha ra bd u r x3 k n 1368 [] := by
  have h := h u r (xs (zn (x3 + 1))) hr
  refine z_aload_n C dL_law_1368 rfl 1 rfl ?_
  refine z_aload_n C dL_law_1369 rfl 0 rfl ?_
  refine z_iload_n C dL_law_1370 rfl 3 rfl ?_
  refine z_iconst (v := 1) C dL_law_1371 (by decide) ?_
  refine z_iadd C dL_law_1372 ?_
  refine z_sld C hX hbl hbA h1 dL_law_1373 ?_
  refine z_Vi (As := [.int (xs (zn (x3 + 1)))]) C [] (wT g ma ha bd u) (wR g ra r) rfl (c_X7_nextCall l g ma ha bd u (xs (zn (x3 + 1))) _ h) v_X7_nextCall mlL_173 7 (q := (RX7, TX7, 7)) rfl rfl 0 rfl ⟨Nat.le_of_ble_eq_true rfl, Nat.le_of_ble_eq_true rfl⟩ ⟨hk, hn⟩ (Nat.le_of_ble_eq_true rfl) rfl dL_law_1374 (fun r1 u1 h => ?_)
  refine z_ws (ws1 := wT g ma ha bd u1 ++ wR g ra r) rfl ?_
  refine z_aload_n C dL_law_1377 rfl 2 rfl ?_
  refine z_aload_n C dL_law_1378 rfl 0 rfl ?_
  refine z_iload_n C dL_law_1379 rfl 3 rfl ?_
  refine z_iconst (v := 1) C dL_law_1380 (by decide) ?_
  refine z_iadd C dL_law_1381 ?_
  refine z_sld C hX hbl hbA h1 dL_law_1382 ?_
  refine z_Vi (As := [.int (xs (zn (x3 + 1)))]) C (wT g ma ha bd u1) (wR g ra r) [] (by rw [List.append_nil]) (c_X8_nextCall l g ra r (xs (zn (x3 + 1))) _ h) v_X8_nextCall mlL_176 8 (q := (RX8, TX8, 20)) rfl rfl 0 rfl ⟨Nat.le_of_ble_eq_true rfl, Nat.le_of_ble_eq_true rfl⟩ ⟨hk, hn⟩ (Nat.le_of_ble_eq_true rfl) rfl dL_law_1383 (fun r2 v1 h => ?_)
  refine z_ws (ws1 := wT g ma ha bd u1 ++ wR g ra v1) (by rw [List.append_nil]) ?_
  exact z_icmp_eq C dL_law_1386 (tgt := 1460) (by decide) (fun _ => K u1 v1 h.2) (fun hc => absurd h.1 hc)
/-- joined: both answer alike, and stay alike -/
def pX_joined (Rel Rel1 : TS → RS → Prop) : Prop := ∀ (u : TS) (r : RS) (a1 a2 : Int32), Rel u r → wp_X7_joined u a1 a2 (fun x u1 => wp_X8_joined r a1 a2 (fun y r1 => x = y ∧ Rel1 u1 r1))
set_option maxRecDepth 20000 in
theorem law_39 (C : zCL p s m b meth c g) (hX : va_X b L xs s s.heap) (hbl : b < s.heap.size) (hbA : ¬ AL s b) {Rel Rel1 : TS → RS → Prop} {u : TS} {r : RS} {x3 : Int32} {k n : Nat} (h1 : vp_in (x3 + 1) L) (h2 : vp_in (x3 + 2) L) (h3 : vp_in (x3 + 3) L) (h4 : vp_in (x3 + 4) L) (h5 : vp_in (x3 + 5) L) (hk : k + 26 ≤ 600000) (hn : n + 1308 ≤ 7302250) (h : pX_joined Rel Rel1) (hr : Rel u r) (K : ∀ (u1 : TS) (v1 : RS), Rel1 u1 v1 → jL p l e s m below meth c g b ma ha ra bd u1 v1 x3 (k + 26) (n + 1308) 1460 []) : jL p l e s m below meth c g b ma ha ra bd u r x3 k n 1391 [] := by
  have h := h u r (xs (zn (x3 + 1))) (xs (zn (x3 + 2))) hr
  refine z_aload_n C dL_law_1391 rfl 1 rfl ?_
  refine z_aload_n C dL_law_1392 rfl 0 rfl ?_
  refine z_iload_n C dL_law_1393 rfl 3 rfl ?_
  refine z_iconst (v := 1) C dL_law_1394 (by decide) ?_
  refine z_iadd C dL_law_1395 ?_
  refine z_sld C hX hbl hbA h1 dL_law_1396 ?_
  refine z_aload_n C dL_law_1397 rfl 0 rfl ?_
  refine z_iload_n C dL_law_1398 rfl 3 rfl ?_
  refine z_iconst (v := 2) C dL_law_1399 (by decide) ?_
  refine z_iadd C dL_law_1400 ?_
  refine z_sld C hX hbl hbA h2 dL_law_1401 ?_
  refine z_Vi (As := [.int (xs (zn (x3 + 1))), .int (xs (zn (x3 + 2)))]) C [] (wT g ma ha bd u) (wR g ra r) rfl (c_X7_joined l g ma ha bd u (xs (zn (x3 + 1))) (xs (zn (x3 + 2))) _ h) v_X7_joined mlL_177 7 (q := (RX7, TX7, 7)) rfl rfl 0 rfl ⟨Nat.le_of_ble_eq_true rfl, Nat.le_of_ble_eq_true rfl⟩ ⟨hk, hn⟩ (Nat.le_of_ble_eq_true rfl) rfl dL_law_1402 (fun r1 u1 h => ?_)
  refine z_ws (ws1 := wT g ma ha bd u1 ++ wR g ra r) rfl ?_
  refine z_aload_n C dL_law_1405 rfl 2 rfl ?_
  refine z_aload_n C dL_law_1406 rfl 0 rfl ?_
  refine z_iload_n C dL_law_1407 rfl 3 rfl ?_
  refine z_iconst (v := 1) C dL_law_1408 (by decide) ?_
  refine z_iadd C dL_law_1409 ?_
  refine z_sld C hX hbl hbA h1 dL_law_1410 ?_
  refine z_aload_n C dL_law_1411 rfl 0 rfl ?_
  refine z_iload_n C dL_law_1412 rfl 3 rfl ?_
  refine z_iconst (v := 2) C dL_law_1413 (by decide) ?_
  refine z_iadd C dL_law_1414 ?_
  refine z_sld C hX hbl hbA h2 dL_law_1415 ?_
  refine z_Vi (As := [.int (xs (zn (x3 + 1))), .int (xs (zn (x3 + 2)))]) C (wT g ma ha bd u1) (wR g ra r) [] (by rw [List.append_nil]) (c_X8_joined l g ra r (xs (zn (x3 + 1))) (xs (zn (x3 + 2))) _ h) v_X8_joined mlL_180 8 (q := (RX8, TX8, 20)) rfl rfl 0 rfl ⟨Nat.le_of_ble_eq_true rfl, Nat.le_of_ble_eq_true rfl⟩ ⟨hk, hn⟩ (Nat.le_of_ble_eq_true rfl) rfl dL_law_1416 (fun r2 v1 h => ?_)
  refine z_ws (ws1 := wT g ma ha bd u1 ++ wR g ra v1) (by rw [List.append_nil]) ?_
  exact z_icmp_eq C dL_law_1419 (tgt := 1460) (by decide) (fun _ => K u1 v1 h.2) (fun hc => absurd h.1 hc)
/-- count: both answer alike, and stay alike -/
def pX_count (Rel Rel1 : TS → RS → Prop) : Prop := ∀ (u : TS) (r : RS) (a1 : Int32), Rel u r → wp_X7_count u a1 (fun x u1 => wp_X8_count r a1 (fun y r1 => x = y ∧ Rel1 u1 r1))
set_option maxRecDepth 20000 in
theorem law_40 (C : zCL p s m b meth c g) (hX : va_X b L xs s s.heap) (hbl : b < s.heap.size) (hbA : ¬ AL s b) {Rel Rel1 : TS → RS → Prop} {u : TS} {r : RS} {x3 : Int32} {k n : Nat} (h1 : vp_in (x3 + 1) L) (h2 : vp_in (x3 + 2) L) (h3 : vp_in (x3 + 3) L) (h4 : vp_in (x3 + 4) L) (h5 : vp_in (x3 + 5) L) (hk : k + 26 ≤ 600000) (hn : n + 1308 ≤ 7302250) (h : pX_count Rel Rel1) (hr : Rel u r) (K : ∀ (u1 : TS) (v1 : RS), Rel1 u1 v1 → jL p l e s m below meth c g b ma ha ra bd u1 v1 x3 (k + 26) (n + 1308) 1460 []) : jL p l e s m below meth c g b ma ha ra bd u r x3 k n 1424 [] := by
  have h := h u r (xs (zn (x3 + 1))) hr
  refine z_wide (k1 := k + 26) (n1 := n + 1308) (Nat.le_add_right _ _) (Nat.le_add_right _ _) ?_
  refine z_aload_n C dL_law_1424 rfl 1 rfl ?_
  refine z_aload_n C dL_law_1425 rfl 0 rfl ?_
  refine z_iload_n C dL_law_1426 rfl 3 rfl ?_
  refine z_iconst (v := 1) C dL_law_1427 (by decide) ?_
  refine z_iadd C dL_law_1428 ?_
  refine z_sld C hX hbl hbA h1 dL_law_1429 ?_
  refine z_Vi (As := [.int (xs (zn (x3 + 1)))]) C [] (wT g ma ha bd u) (wR g ra r) rfl (c_X7_count l g ma ha bd u (xs (zn (x3 + 1))) _ h) v_X7_count mlL_181 7 (q := (RX7, TX7, 7)) rfl rfl 0 rfl ⟨Nat.le_of_ble_eq_true rfl, Nat.le_of_ble_eq_true rfl⟩ ⟨hk, hn⟩ (Nat.le_of_ble_eq_true rfl) rfl dL_law_1430 (fun r1 u1 h => ?_)
  refine z_ws (ws1 := wT g ma ha bd u1 ++ wR g ra r) rfl ?_
  refine z_aload_n C dL_law_1433 rfl 2 rfl ?_
  refine z_aload_n C dL_law_1434 rfl 0 rfl ?_
  refine z_iload_n C dL_law_1435 rfl 3 rfl ?_
  refine z_iconst (v := 1) C dL_law_1436 (by decide) ?_
  refine z_iadd C dL_law_1437 ?_
  refine z_sld C hX hbl hbA h1 dL_law_1438 ?_
  refine z_Vi (As := [.int (xs (zn (x3 + 1)))]) C (wT g ma ha bd u1) (wR g ra r) [] (by rw [List.append_nil]) (c_X8_count l g ra r (xs (zn (x3 + 1))) _ h) v_X8_count mlL_184 8 (q := (RX8, TX8, 20)) rfl rfl 0 rfl ⟨Nat.le_of_ble_eq_true rfl, Nat.le_of_ble_eq_true rfl⟩ ⟨hk, hn⟩ (Nat.le_of_ble_eq_true rfl) rfl dL_law_1439 (fun r2 v1 h => ?_)
  refine z_ws (ws1 := wT g ma ha bd u1 ++ wR g ra v1) (by rw [List.append_nil]) ?_
  exact z_icmp_eq C dL_law_1442 (tgt := 1460) (by decide) (fun _ => K u1 v1 h.2) (fun hc => absurd h.1 hc)
/-- status: both answer alike, and stay alike -/
def pX_status (Rel Rel1 : TS → RS → Prop) : Prop := ∀ (u : TS) (r : RS), Rel u r → wp_X7_status u (fun x u1 => wp_X8_status r (fun y r1 => x = y ∧ Rel1 u1 r1))
set_option maxRecDepth 20000 in
theorem law_41 (C : zCL p s m b meth c g) (hX : va_X b L xs s s.heap) (hbl : b < s.heap.size) (hbA : ¬ AL s b) {Rel Rel1 : TS → RS → Prop} {u : TS} {r : RS} {x3 : Int32} {k n : Nat} (h1 : vp_in (x3 + 1) L) (h2 : vp_in (x3 + 2) L) (h3 : vp_in (x3 + 3) L) (h4 : vp_in (x3 + 4) L) (h5 : vp_in (x3 + 5) L) (hk : k + 26 ≤ 600000) (hn : n + 1308 ≤ 7302250) (h : pX_status Rel Rel1) (hr : Rel u r) (K : ∀ (u1 : TS) (v1 : RS), Rel1 u1 v1 → jL p l e s m below meth c g b ma ha ra bd u1 v1 x3 (k + 26) (n + 1308) 1460 []) : jL p l e s m below meth c g b ma ha ra bd u r x3 k n 1447 [] := by
  have h := h u r hr
  refine z_wide (k1 := k + 26) (n1 := n + 1308) (Nat.le_add_right _ _) (Nat.le_add_right _ _) ?_
  refine z_aload_n C dL_law_1447 rfl 1 rfl ?_
  refine z_Vi (As := []) C [] (wT g ma ha bd u) (wR g ra r) rfl (c_X7_status l g ma ha bd u _ h) v_X7_status mlL_185 7 (q := (RX7, TX7, 7)) rfl rfl 0 rfl ⟨Nat.le_of_ble_eq_true rfl, Nat.le_of_ble_eq_true rfl⟩ ⟨hk, hn⟩ (Nat.le_of_ble_eq_true rfl) rfl dL_law_1448 (fun r1 u1 h => ?_)
  refine z_ws (ws1 := wT g ma ha bd u1 ++ wR g ra r) rfl ?_
  refine z_aload_n C dL_law_1451 rfl 2 rfl ?_
  refine z_Vi (As := []) C (wT g ma ha bd u1) (wR g ra r) [] (by rw [List.append_nil]) (c_X8_status l g ra r _ h) v_X8_status mlL_188 8 (q := (RX8, TX8, 20)) rfl rfl 0 rfl ⟨Nat.le_of_ble_eq_true rfl, Nat.le_of_ble_eq_true rfl⟩ ⟨hk, hn⟩ (Nat.le_of_ble_eq_true rfl) rfl dL_law_1452 (fun r2 v1 h => ?_)
  refine z_ws (ws1 := wT g ma ha bd u1 ++ wR g ra v1) (by rw [List.append_nil]) ?_
  exact z_icmp_eq C dL_law_1455 (tgt := 1460) (by decide) (fun _ => K u1 v1 h.2) (fun hc => absurd h.1 hc)
end ZM
