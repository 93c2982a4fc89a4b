-- the law's loop, the law from its entry
def pAll (Rel Rel1 : TS → RS → Prop) : Prop := pX_key Rel Rel1 ∧ pX_mask Rel Rel1 ∧ pX_flow Rel Rel1 ∧ pX_table Rel Rel1 ∧ pX_balance Rel Rel1 ∧ pX_reads Rel Rel1 ∧ pX_retire Rel Rel1 ∧ pX_steer Rel Rel1 ∧ pX_free Rel Rel1 ∧ pX_terms Rel Rel1 ∧ pX_packet Rel Rel1 ∧ pX_burst Rel Rel1 ∧ pX_gap Rel Rel1 ∧ pX_tick Rel Rel1 ∧ pX_poll Rel Rel1 ∧ pX_undo Rel Rel1 ∧ pX_image Rel Rel1 ∧ pX_back Rel Rel1 ∧ pX_hash Rel Rel1 ∧ pX_hashOf Rel Rel1 ∧ pX_of Rel Rel1 ∧ pX_find Rel Rel1 ∧ pX_missing Rel Rel1 ∧ pX_entry Rel Rel1 ∧ pX_queue Rel Rel1 ∧ pX_waits Rel Rel1 ∧ pX_segment Rel Rel1 ∧ pX_given Rel Rel1 ∧ pX_window Rel Rel1 ∧ pX_isBothWays Rel Rel1 ∧ pX_reach Rel Rel1 ∧ pX_aim Rel Rel1 ∧ pX_spread Rel Rel1 ∧ pX_ratio Rel Rel1 ∧ pX_alike Rel Rel1 ∧ pX_load Rel Rel1 ∧ pX_would Rel Rel1 ∧ pX_drain Rel Rel1 ∧ pX_nextCall Rel Rel1 ∧ pX_joined Rel Rel1 ∧ pX_count Rel Rel1 ∧ pX_status Rel Rel1
theorem zL_cmp {L i : Nat} (hL : L ≤ 3072) (hi : i ≤ 3072) (hc : ¬ Int32.ofNat L - 6 < nI i) : i + 6 ≤ L := by
  have h1 : (nI i).toInt = (i : Int) := nI_toInt (by omega)
  have h2 : (Int32.ofNat L).toInt = (L : Int) := nI_toInt (n := L) (by omega)
  have h3 : (Int32.ofNat L - 6).toInt = (L : Int) - 6 := by
    rw [Int32.toInt_sub, h2]
    show Int.bmod ((L : Int) - 6) (2 ^ 32) = (L : Int) - 6
    exact Int.bmod_eq_of_le (by omega) (by omega)
  rw [Int32.lt_iff_toInt_lt, h1, h3] at hc
  omega
theorem zL_in {L i : Nat} (hL : L ≤ 3072) (j : Nat) (hj : j < 6) (h : i + 6 ≤ L) {x : Int32} (hx : x = nI (i + j)) : vp_in x L := by
  rw [hx]
  exact nI_in (by omega) (by omega)
set_option maxRecDepth 20000 in
set_option maxHeartbeats 4000000 in
theorem law_loop {p : Program} {l : Launch} {e : Env} {s : State} {m : MethodId} {below : List Frame} {meth : Method} {c : Code} {g : zG} {b L : Nat} {xs : Nat → Int32} {ma ha ra : Nat → Nat} {bd : Nat → Nat → Nat} (hL : L ≤ 3072) (C : zCL p s m b meth c g) (hret : meth.sig.returnType = ret) (hX : va_X b L xs s s.heap) (hbl : b < s.heap.size) {Rel : Nat → TS → RS → Prop} (hA : ∀ t, t < 512 → pAll (Rel t) (Rel (t + 1))) (hM : ∀ t u r, Rel t u r → Rel (t + 1) u r) :
    ∀ (f t : Nat), t ≤ 512 → 513 ≤ t + f → ∀ (u : TS) (r : RS), Rel t u r → jL p l e s m below meth c g b ma ha ra bd u r (nI (6 * t)) (49 + 26 * t) (14364 + 1308 * t) 18 [] := by
  have hbA : ¬ AL s b := Nat.not_le.mpr hbl
  intro f
  induction f with
  | zero =>
    intro t h1 h2
    exact absurd h2 (by omega)
  | succ f ih =>
    intro t ht hf u r hr
    refine z_iload_n C dL_law_18 rfl 3 rfl ?_
    refine z_aload_n C dL_law_19 rfl 0 rfl ?_
    refine z_slen C hX hbl hbA dL_law_20 ?_
    refine z_bipush (v := 6) C dL_law_21 (by decide) ?_
    refine z_isub C dL_law_23 ?_
    refine z_icmp_gt C dL_law_24 (tgt := 1466) (by decide) (fun hc => ?_) (fun hc => ?_)
    · refine z_iconst (v := 1) C dL_law_1466 (by decide) ?_
      intro H locs ls hP hD hS hl
      refine va_forget (fun q hq => hS.2.2 q hq) ?_
      refine W.widen (k := 600000) (n := 7302250) (by omega) (by omega) ?_
      exact lw_ret C.1 C.2.1 hret C.2.2.2.2.2.2.2.2 dL_law_1467
    · have hi : 6 * t + 6 ≤ L := zL_cmp hL (by omega) hc
      have h0 : vp_in (nI (6 * t)) L := zL_in hL 0 (by omega) hi rfl
      have h1 : vp_in (nI (6 * t) + 1) L := zL_in hL 1 (by omega) hi (by rw [← nI_add]; rfl)
      have h2 : vp_in (nI (6 * t) + 2) L := zL_in hL 2 (by omega) hi (by rw [← nI_add]; rfl)
      have h3 : vp_in (nI (6 * t) + 3) L := zL_in hL 3 (by omega) hi (by rw [← nI_add]; rfl)
      have h4 : vp_in (nI (6 * t) + 4) L := zL_in hL 4 (by omega) hi (by rw [← nI_add]; rfl)
      have h5 : vp_in (nI (6 * t) + 5) L := zL_in hL 5 (by omega) hi (by rw [← nI_add]; rfl)
      refine z_aload_n C dL_law_27 rfl 0 rfl ?_
      refine z_iload_n C dL_law_28 rfl 3 rfl ?_
      refine z_sld C hX hbl hbA h0 dL_law_29 ?_
      refine z_bipush (v := 63) C dL_law_30 (by decide) ?_
      refine z_iand C dL_law_32 ?_
      refine z_topi (fun y ey => ?_)
      have K : ∀ (u1 : TS) (v1 : RS), Rel (t + 1) u1 v1 → jL p l e s m below meth c g b ma ha ra bd u1 v1 (nI (6 * t)) (49 + 26 * t + 26) (14364 + 1308 * t + 1308) 1460 [] := by
        intro u1 v1 h
        have e1 : nI (6 * t) + Int32.ofInt 6 = nI (6 * (t + 1)) := by
          show nI (6 * t) + nI 6 = nI (6 * (t + 1))
          rw [nI_add, Nat.mul_succ]
        refine z_iinc (v := nI (6 * (t + 1))) (lv1 := [(3, .int (nI (6 * (t + 1)))), (0, .ref b), (1, .ref (ma 0)), (2, .ref (ra 0))]) C dL_law_1460 3 rfl e1 (by decide) rfl ?_
        refine z_goto C dL_law_1463 (tgt := 18) (by decide) ?_
        refine z_lv (lv1 := [(0, .ref b), (1, .ref (ma 0)), (2, .ref (ra 0)), (3, .int (nI (6 * (t + 1))))]) [1, 2, 3, 0] rfl ?_
        have q := ih (t + 1) (by omega) (by omega) u1 v1 h
        rw [show 49 + 26 * t + 26 = 49 + 26 * (t + 1) by omega, show 14364 + 1308 * t + 1308 = 14364 + 1308 * (t + 1) by omega]
        exact q
      have hk : 49 + 26 * t + 26 ≤ 600000 := by omega
      have hn : 14364 + 1308 * t + 1308 ≤ 7302250 := by omega
      have hA := hA t (by omega)
      unfold pAll at hA
      obtain ⟨q0, q1, q2, q3, q4, q5, q6, q7, q8, q9, q10, q11, q12, q13, q14, q15, q16, q17, q18, q19, q20, q21, q22, q23, q24, q25, q26, q27, q28, q29, q30, q31, q32, q33, q34, q35, q36, q37, q38, q39, q40, q41⟩ := hA
      by_cases y0 : y = 0
      · refine z_tIn C dL_law_33 (0) (by rw [y0]; decide) (by decide) (by decide) rfl (tgt := 216) (by decide) ?_
        exact law_0 C hX hbl hbA h1 h2 h3 h4 h5 hk hn q0 hr K
      by_cases y1 : y = 1
      · refine z_tIn C dL_law_33 (1) (by rw [y1]; decide) (by decide) (by decide) rfl (tgt := 259) (by decide) ?_
        exact law_1 C hX hbl hbA h1 h2 h3 h4 h5 hk hn q1 hr K
      by_cases y2 : y = 2
      · refine z_tIn C dL_law_33 (2) (by rw [y2]; decide) (by decide) (by decide) rfl (tgt := 282) (by decide) ?_
        exact law_2 C hX hbl hbA h1 h2 h3 h4 h5 hk hn q2 hr K
      by_cases y3 : y = 3
      · refine z_tIn C dL_law_33 (3) (by rw [y3]; decide) (by decide) (by decide) rfl (tgt := 345) (by decide) ?_
        exact law_3 C hX hbl hbA h1 h2 h3 h4 h5 hk hn q3 hr K
      by_cases y4 : y = 4
      · refine z_tIn C dL_law_33 (4) (by rw [y4]; decide) (by decide) (by decide) rfl (tgt := 378) (by decide) ?_
        exact law_4 C hX hbl hbA h1 h2 h3 h4 h5 hk hn q4 hr K
      by_cases y5 : y = 5
      · refine z_tIn C dL_law_33 (5) (by rw [y5]; decide) (by decide) (by decide) rfl (tgt := 391) (by decide) ?_
        exact law_5 C hX hbl hbA h1 h2 h3 h4 h5 hk hn q5 hr K
      by_cases y6 : y = 6
      · refine z_tIn C dL_law_33 (6) (by rw [y6]; decide) (by decide) (by decide) rfl (tgt := 424) (by decide) ?_
        exact law_6 C hX hbl hbA h1 h2 h3 h4 h5 hk hn q6 hr K
      by_cases y7 : y = 7
      · refine z_tIn C dL_law_33 (7) (by rw [y7]; decide) (by decide) (by decide) rfl (tgt := 447) (by decide) ?_
        exact law_7 C hX hbl hbA h1 h2 h3 h4 h5 hk hn q7 hr K
      by_cases y8 : y = 8
      · refine z_tIn C dL_law_33 (8) (by rw [y8]; decide) (by decide) (by decide) rfl (tgt := 480) (by decide) ?_
        exact law_8 C hX hbl hbA h1 h2 h3 h4 h5 hk hn q8 hr K
      by_cases y9 : y = 9
      · refine z_tIn C dL_law_33 (9) (by rw [y9]; decide) (by decide) (by decide) rfl (tgt := 503) (by decide) ?_
        exact law_9 C hX hbl hbA h1 h2 h3 h4 h5 hk hn q9 hr K
      by_cases y10 : y = 10
      · refine z_tIn C dL_law_33 (10) (by rw [y10]; decide) (by decide) (by decide) rfl (tgt := 536) (by decide) ?_
        exact law_10 C hX hbl hbA h1 h2 h3 h4 h5 hk hn q10 hr K
      by_cases y11 : y = 11
      · refine z_tIn C dL_law_33 (11) (by rw [y11]; decide) (by decide) (by decide) rfl (tgt := 595) (by decide) ?_
        exact law_11 C hX hbl hbA h1 h2 h3 h4 h5 hk hn q11 hr K
      by_cases y12 : y = 12
      · refine z_tIn C dL_law_33 (12) (by rw [y12]; decide) (by decide) (by decide) rfl (tgt := 638) (by decide) ?_
        exact law_12 C hX hbl hbA h1 h2 h3 h4 h5 hk hn q12 hr K
      by_cases y13 : y = 13
      · refine z_tIn C dL_law_33 (13) (by rw [y13]; decide) (by decide) (by decide) rfl (tgt := 671) (by decide) ?_
        exact law_13 C hX hbl hbA h1 h2 h3 h4 h5 hk hn q13 hr K
      by_cases y14 : y = 14
      · refine z_tIn C dL_law_33 (14) (by rw [y14]; decide) (by decide) (by decide) rfl (tgt := 694) (by decide) ?_
        exact law_14 C hX hbl hbA h1 h2 h3 h4 h5 hk hn q14 hr K
      by_cases y15 : y = 15
      · refine z_tIn C dL_law_33 (15) (by rw [y15]; decide) (by decide) (by decide) rfl (tgt := 717) (by decide) ?_
        exact law_15 C hX hbl hbA h1 h2 h3 h4 h5 hk hn q15 hr K
      by_cases y16 : y = 16
      · refine z_tIn C dL_law_33 (16) (by rw [y16]; decide) (by decide) (by decide) rfl (tgt := 730) (by decide) ?_
        exact law_16 C hX hbl hbA h1 h2 h3 h4 h5 hk hn q16 hr K
      by_cases y17 : y = 17
      · refine z_tIn C dL_law_33 (17) (by rw [y17]; decide) (by decide) (by decide) rfl (tgt := 753) (by decide) ?_
        exact law_17 C hX hbl hbA h1 h2 h3 h4 h5 hk hn q17 hr K
      by_cases y18 : y = 18
      · refine z_tIn C dL_law_33 (18) (by rw [y18]; decide) (by decide) (by decide) rfl (tgt := 776) (by decide) ?_
        exact law_18 C hX hbl hbA h1 h2 h3 h4 h5 hk hn q18 hr K
      by_cases y19 : y = 19
      · refine z_tIn C dL_law_33 (19) (by rw [y19]; decide) (by decide) (by decide) rfl (tgt := 839) (by decide) ?_
        exact law_19 C hX hbl hbA h1 h2 h3 h4 h5 hk hn q19 hr K
      by_cases y20 : y = 20
      · refine z_tIn C dL_law_33 (20) (by rw [y20]; decide) (by decide) (by decide) rfl (tgt := 862) (by decide) ?_
        exact law_20 C hX hbl hbA h1 h2 h3 h4 h5 hk hn q20 hr K
      by_cases y21 : y = 21
      · refine z_tIn C dL_law_33 (21) (by rw [y21]; decide) (by decide) (by decide) rfl (tgt := 895) (by decide) ?_
        exact law_21 C hX hbl hbA h1 h2 h3 h4 h5 hk hn q21 hr K
      by_cases y22 : y = 22
      · refine z_tIn C dL_law_33 (22) (by rw [y22]; decide) (by decide) (by decide) rfl (tgt := 958) (by decide) ?_
        exact law_22 C hX hbl hbA h1 h2 h3 h4 h5 hk hn q22 hr K
      by_cases y23 : y = 23
      · refine z_tIn C dL_law_33 (23) (by rw [y23]; decide) (by decide) (by decide) rfl (tgt := 991) (by decide) ?_
        exact law_23 C hX hbl hbA h1 h2 h3 h4 h5 hk hn q23 hr K
      by_cases y24 : y = 24
      · refine z_tIn C dL_law_33 (24) (by rw [y24]; decide) (by decide) (by decide) rfl (tgt := 1024) (by decide) ?_
        exact law_24 C hX hbl hbA h1 h2 h3 h4 h5 hk hn q24 hr K
      by_cases y25 : y = 25
      · refine z_tIn C dL_law_33 (25) (by rw [y25]; decide) (by decide) (by decide) rfl (tgt := 1057) (by decide) ?_
        exact law_25 C hX hbl hbA h1 h2 h3 h4 h5 hk hn q25 hr K
      by_cases y26 : y = 26
      · refine z_tIn C dL_law_33 (26) (by rw [y26]; decide) (by decide) (by decide) rfl (tgt := 1100) (by decide) ?_
        exact law_26 C hX hbl hbA h1 h2 h3 h4 h5 hk hn q26 hr K
      by_cases y27 : y = 27
      · refine z_tIn C dL_law_33 (27) (by rw [y27]; decide) (by decide) (by decide) rfl (tgt := 1133) (by decide) ?_
        exact law_27 C hX hbl hbA h1 h2 h3 h4 h5 hk hn q27 hr K
      by_cases y28 : y = 28
      · refine z_tIn C dL_law_33 (28) (by rw [y28]; decide) (by decide) (by decide) rfl (tgt := 1157) (by decide) ?_
        exact law_28 C hX hbl hbA h1 h2 h3 h4 h5 hk hn q28 hr K
      by_cases y29 : y = 29
      · refine z_tIn C dL_law_33 (29) (by rw [y29]; decide) (by decide) (by decide) rfl (tgt := 1180) (by decide) ?_
        exact law_29 C hX hbl hbA h1 h2 h3 h4 h5 hk hn q29 hr K
      by_cases y30 : y = 30
      · refine z_tIn C dL_law_33 (30) (by rw [y30]; decide) (by decide) (by decide) rfl (tgt := 1193) (by decide) ?_
        exact law_30 C hX hbl hbA h1 h2 h3 h4 h5 hk hn q30 hr K
      by_cases y31 : y = 31
      · refine z_tIn C dL_law_33 (31) (by rw [y31]; decide) (by decide) (by decide) rfl (tgt := 1206) (by decide) ?_
        exact law_31 C hX hbl hbA h1 h2 h3 h4 h5 hk hn q31 hr K
      by_cases y32 : y = 32
      · refine z_tIn C dL_law_33 (32) (by rw [y32]; decide) (by decide) (by decide) rfl (tgt := 1239) (by decide) ?_
        exact law_32 C hX hbl hbA h1 h2 h3 h4 h5 hk hn q32 hr K
      by_cases y33 : y = 33
      · refine z_tIn C dL_law_33 (33) (by rw [y33]; decide) (by decide) (by decide) rfl (tgt := 1262) (by decide) ?_
        exact law_33 C hX hbl hbA h1 h2 h3 h4 h5 hk hn q33 hr K
      by_cases y34 : y = 34
      · refine z_tIn C dL_law_33 (34) (by rw [y34]; decide) (by decide) (by decide) rfl (tgt := 1286) (by decide) ?_
        exact law_34 C hX hbl hbA h1 h2 h3 h4 h5 hk hn q34 hr K
      by_cases y35 : y = 35
      · refine z_tIn C dL_law_33 (35) (by rw [y35]; decide) (by decide) (by decide) rfl (tgt := 1299) (by decide) ?_
        exact law_35 C hX hbl hbA h1 h2 h3 h4 h5 hk hn q35 hr K
      by_cases y36 : y = 36
      · refine z_tIn C dL_law_33 (36) (by rw [y36]; decide) (by decide) (by decide) rfl (tgt := 1322) (by decide) ?_
        exact law_36 C hX hbl hbA h1 h2 h3 h4 h5 hk hn q36 hr K
      by_cases y37 : y = 37
      · refine z_tIn C dL_law_33 (37) (by rw [y37]; decide) (by decide) (by decide) rfl (tgt := 1355) (by decide) ?_
        exact law_37 C hX hbl hbA h1 h2 h3 h4 h5 hk hn q37 hr K
      by_cases y38 : y = 38
      · refine z_tIn C dL_law_33 (38) (by rw [y38]; decide) (by decide) (by decide) rfl (tgt := 1368) (by decide) ?_
        exact law_38 C hX hbl hbA h1 h2 h3 h4 h5 hk hn q38 hr K
      by_cases y39 : y = 39
      · refine z_tIn C dL_law_33 (39) (by rw [y39]; decide) (by decide) (by decide) rfl (tgt := 1391) (by decide) ?_
        exact law_39 C hX hbl hbA h1 h2 h3 h4 h5 hk hn q39 hr K
      by_cases y40 : y = 40
      · refine z_tIn C dL_law_33 (40) (by rw [y40]; decide) (by decide) (by decide) rfl (tgt := 1424) (by decide) ?_
        exact law_40 C hX hbl hbA h1 h2 h3 h4 h5 hk hn q40 hr K
      by_cases y41 : y = 41
      · refine z_tIn C dL_law_33 (41) (by rw [y41]; decide) (by decide) (by decide) rfl (tgt := 1447) (by decide) ?_
        exact law_41 C hX hbl hbA h1 h2 h3 h4 h5 hk hn q41 hr K
      have n0 := lv_neT (a := 0) y0 (by decide)
      have n1 := lv_neT (a := 1) y1 (by decide)
      have n2 := lv_neT (a := 2) y2 (by decide)
      have n3 := lv_neT (a := 3) y3 (by decide)
      have n4 := lv_neT (a := 4) y4 (by decide)
      have n5 := lv_neT (a := 5) y5 (by decide)
      have n6 := lv_neT (a := 6) y6 (by decide)
      have n7 := lv_neT (a := 7) y7 (by decide)
      have n8 := lv_neT (a := 8) y8 (by decide)
      have n9 := lv_neT (a := 9) y9 (by decide)
      have n10 := lv_neT (a := 10) y10 (by decide)
      have n11 := lv_neT (a := 11) y11 (by decide)
      have n12 := lv_neT (a := 12) y12 (by decide)
      have n13 := lv_neT (a := 13) y13 (by decide)
      have n14 := lv_neT (a := 14) y14 (by decide)
      have n15 := lv_neT (a := 15) y15 (by decide)
      have n16 := lv_neT (a := 16) y16 (by decide)
      have n17 := lv_neT (a := 17) y17 (by decide)
      have n18 := lv_neT (a := 18) y18 (by decide)
      have n19 := lv_neT (a := 19) y19 (by decide)
      have n20 := lv_neT (a := 20) y20 (by decide)
      have n21 := lv_neT (a := 21) y21 (by decide)
      have n22 := lv_neT (a := 22) y22 (by decide)
      have n23 := lv_neT (a := 23) y23 (by decide)
      have n24 := lv_neT (a := 24) y24 (by decide)
      have n25 := lv_neT (a := 25) y25 (by decide)
      have n26 := lv_neT (a := 26) y26 (by decide)
      have n27 := lv_neT (a := 27) y27 (by decide)
      have n28 := lv_neT (a := 28) y28 (by decide)
      have n29 := lv_neT (a := 29) y29 (by decide)
      have n30 := lv_neT (a := 30) y30 (by decide)
      have n31 := lv_neT (a := 31) y31 (by decide)
      have n32 := lv_neT (a := 32) y32 (by decide)
      have n33 := lv_neT (a := 33) y33 (by decide)
      have n34 := lv_neT (a := 34) y34 (by decide)
      have n35 := lv_neT (a := 35) y35 (by decide)
      have n36 := lv_neT (a := 36) y36 (by decide)
      have n37 := lv_neT (a := 37) y37 (by decide)
      have n38 := lv_neT (a := 38) y38 (by decide)
      have n39 := lv_neT (a := 39) y39 (by decide)
      have n40 := lv_neT (a := 40) y40 (by decide)
      have n41 := lv_neT (a := 41) y41 (by decide)
      refine z_tOut C dL_law_33 (by omega) (tgt := 1460) (by decide) ?_
      refine z_wide (k1 := 49 + 26 * t + 26) (n1 := 14364 + 1308 * t + 1308) (Nat.le_add_right _ _) (Nat.le_add_right _ _) ?_
      exact K u r (hM t u r hr)
set_option maxRecDepth 40000 in
set_option maxHeartbeats 4000000 in
theorem law_all {p : Program} {l : Launch} {e : Env} {s : State} {m : MethodId} {below : List Frame} {meth : Method} {c : Code} {g : zG} {b L : Nat} {xs : Nat → Int32} (hL : L ≤ 3072) (C : zCL p s m b meth c g) (hret : meth.sig.returnType = ret) (hX : va_X b L xs s s.heap) (hbl : b < s.heap.size) {Rel : Nat → TS → RS → Prop} (h0 : Rel 0 iT iR) (hA : ∀ t, t < 512 → pAll (Rel t) (Rel (t + 1))) (hM : ∀ t u r, Rel t u r → Rel (t + 1) u r) : zJ p l e room_1 s m #[Value.ref b] below meth c g (AL s) 4 (lw_Z below #[Value.ref b] s) [] 0 0 0 [(0, .ref b)] [] := by
  refine z_new (T := TX7) (N := 7) C inX7 tyX7 tyX7_ok clL_7 wI7 wN7 (ci := 7) rfl [.null, .null, .null, .null, .int 0, .null, .null] (by intro j hj; exact (show ∀ j, j < 7 → defaultValue (tyX7 j) = vp_V [.null, .null, .null, .null, .int 0, .null, .null] j by decide +kernel) j hj) ⟨Nat.le_of_ble_eq_true rfl, Nat.le_of_ble_eq_true rfl⟩ dL_law_0 (fun q1 => ?_)
  refine z_dup C dL_law_3 rfl ?_
  refine z_Iv (As := []) C [] [(q1, .inr (7, [.null, .null, .null, .null, .int 0, .null, .null]))] [] rfl (c_X7_init l g q1) i_X7_init mlL_9 ⟨Nat.le_of_ble_eq_true rfl, Nat.le_of_ble_eq_true rfl⟩ ⟨Nat.le_of_ble_eq_true rfl, Nat.le_of_ble_eq_true rfl⟩ (Nat.le_of_ble_eq_true rfl) rfl dL_law_4 (fun z ez => ?_)
  subst ez
  refine z_ws (ws1 := wT g z.1 z.2.1 z.2.2 iT) (by simp) ?_
  refine z_astore_n (lv1 := [(1, .ref (z.1 0)), (0, .ref b)]) C dL_law_7 rfl (by decide) rfl ?_
  refine z_new (T := TX8) (N := 20) C inX8 tyX8 tyX8_ok clL_10 wI8 wN8 (ci := 8) rfl [.int 0, .int 0, .null, .null, .null, .null, .null, .null, .int 0, .null, .null, .null, .null, .null, .null, .null, .null, .null, .int 0, .int 0] (by intro j hj; exact (show ∀ j, j < 20 → defaultValue (tyX8 j) = vp_V [.int 0, .int 0, .null, .null, .null, .null, .null, .null, .int 0, .null, .null, .null, .null, .null, .null, .null, .null, .null, .int 0, .int 0] j by decide +kernel) j hj) ⟨Nat.le_of_ble_eq_true rfl, Nat.le_of_ble_eq_true rfl⟩ dL_law_8 (fun q2 => ?_)
  refine z_dup C dL_law_11 rfl ?_
  refine z_Iv (As := []) C (wT g z.1 z.2.1 z.2.2 iT) [(q2, .inr (8, [.int 0, .int 0, .null, .null, .null, .null, .null, .null, .int 0, .null, .null, .null, .null, .null, .null, .null, .null, .null, .int 0, .int 0]))] [] rfl (c_X8_init l g q2) i_X8_init mlL_12 ⟨Nat.le_of_ble_eq_true rfl, Nat.le_of_ble_eq_true rfl⟩ ⟨Nat.le_of_ble_eq_true rfl, Nat.le_of_ble_eq_true rfl⟩ (Nat.le_of_ble_eq_true rfl) rfl dL_law_12 (fun ra ez => ?_)
  subst ez
  refine z_ws (ws1 := wT g z.1 z.2.1 z.2.2 iT ++ wR g ra iR) (by rw [List.append_nil]) ?_
  refine z_astore_n (lv1 := [(2, .ref (ra 0)), (1, .ref (z.1 0)), (0, .ref b)]) C dL_law_15 rfl (by decide) rfl ?_
  refine z_iconst (v := 0) C dL_law_16 (by decide) ?_
  refine z_istore_n (lv1 := [(3, .int 0), (2, .ref (ra 0)), (1, .ref (z.1 0)), (0, .ref b)]) C dL_law_17 rfl (by decide) rfl ?_
  refine z_lv (lv1 := [(0, .ref b), (1, .ref (z.1 0)), (2, .ref (ra 0)), (3, .int 0)]) [3, 2, 1, 0] rfl ?_
  exact law_loop hL C hret hX hbl hA hM 513 0 (by omega) (by omega) iT iR h0
