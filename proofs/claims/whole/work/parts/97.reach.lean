-- the pure side: reach
theorem nI_bv (m : Nat) : (nI m).toBitVec = BitVec.ofNat 32 m := rfl
theorem nI_and (a b : Nat) : nI a &&& nI b = nI (a &&& b) := by
  apply Int32.toBitVec_inj.mp
  rw [Int32.toBitVec_and, nI_bv, nI_bv, nI_bv, BitVec.ofNat_and]
theorem nI_or (a b : Nat) : nI a ||| nI b = nI (a ||| b) := by
  apply Int32.toBitVec_inj.mp
  rw [Int32.toBitVec_or, nI_bv, nI_bv, nI_bv, BitVec.ofNat_or]
theorem zu_nI (a s : Nat) (ha : a < 2 ^ 31) (hs : s < 32) : zu (nI a) (nI s) = nI (a >>> s) := by
  apply Int32.toBitVec_inj.mp
  rw [zu_bv _ s hs, nI_bv, nI_bv]
  apply BitVec.eq_of_toNat_eq
  have h1 : a >>> s ≤ a := by rw [Nat.shiftRight_eq_div_pow]; exact Nat.div_le_self _ _
  rw [BitVec.toNat_ushiftRight, BitVec.toNat_ofNat, BitVec.toNat_ofNat, Nat.mod_eq_of_lt (by omega), Nat.mod_eq_of_lt (by omega)]
/-- the sets of entries that a key can reach: each is closed -/
def zLs : List Nat := [1, 3, 5, 9, 15, 17, 33, 51, 65, 85, 105, 129, 153, 165, 195, 255, 257, 513, 771, 1025, 1285, 1545, 2049, 2313, 2565, 3075, 3855, 4097, 4369, 4641, 5185, 6273, 8193, 8481, 8721, 9345, 10305, 12291, 13107, 15555, 16385, 16705, 17025, 17425, 18465, 20485, 21845, 23205, 24585, 26265, 26985, 32769, 33153, 33345, 33825, 34833, 36873, 38505, 39321, 40965, 42405, 43605, 49155, 50115, 52275, 61455, 65535]
theorem zLs_lt : ∀ m ∈ zLs, m < 65536 := by decide +kernel
def zstN (m s : Nat) : Nat → Nat
  | 0 => 0
  | i + 1 => if (m >>> i) &&& 1 = 1 then zstN m s i ||| 2 ^ (i ^^^ s) else zstN m s i
theorem zLs_st : ∀ m ∈ zLs, ∀ s, s < 16 → (m ||| zstN m s 16) ∈ zLs := by decide +kernel
theorem qJ_bitCount {Q : Int32 → Prop} (m : Nat) (hlt : m < 65536) (h : Q (nI (zpc m 16))) : wp_J6_bitCount (nI m) Q := by
  have z := zsw_all m hlt
  unfold zsw at z
  simp only [Bool.and_eq_true, Nat.ble_eq] at z
  obtain ⟨z0, z1, z2, z3, z4, z5⟩ := z
  replace z5 : (zsa5 (zsa4 (zsa3 (zsa2 (zsa1 m)))) &&& 63) = zpc m 16 := Nat.eq_of_beq_eq_true z5
  replace z0 : ((m >>> 1) &&& 1431655765) ≤ m := z0
  unfold wp_J6_bitCount
  intro x1 e1 x2 e2 x3 e3 x4 e4 x5 e5
  have f1 : x1 = nI (zsa1 m) := by
    rw [e1, show zu (nI m) 1 = nI (m >>> 1) from zu_nI m 1 (by omega) (by decide), show (1431655765 : Int32) = nI 1431655765 from rfl, nI_and, nI_sub z0]
    rfl
  have f2 : x2 = nI (zsa2 (zsa1 m)) := by
    rw [e2, f1, show zu (nI (zsa1 m)) 2 = nI (zsa1 m >>> 2) from zu_nI _ 2 (by omega) (by decide), show (858993459 : Int32) = nI 858993459 from rfl, nI_and, nI_and, nI_add]
    rfl
  have f3 : x3 = nI (zsa3 (zsa2 (zsa1 m))) := by
    rw [e3, f2, show zu (nI (zsa2 (zsa1 m))) 4 = nI (zsa2 (zsa1 m) >>> 4) from zu_nI _ 4 (by omega) (by decide), show (252645135 : Int32) = nI 252645135 from rfl, nI_add, nI_and]
    rfl
  have f4 : x4 = nI (zsa4 (zsa3 (zsa2 (zsa1 m)))) := by
    rw [e4, f3, show zu (nI (zsa3 (zsa2 (zsa1 m)))) 8 = nI (zsa3 (zsa2 (zsa1 m)) >>> 8) from zu_nI _ 8 (by omega) (by decide), nI_add]
    rfl
  have f5 : x5 = nI (zsa5 (zsa4 (zsa3 (zsa2 (zsa1 m))))) := by
    rw [e5, f4, show zu (nI (zsa4 (zsa3 (zsa2 (zsa1 m))))) 16 = nI (zsa4 (zsa3 (zsa2 (zsa1 m))) >>> 16) from zu_nI _ 16 (by omega) (by decide), nI_add]
    rfl
  rw [f5, show (63 : Int32) = nI 63 from rfl, nI_and, z5]
  exact h
theorem sar_bv (x : Int32) : ∀ s : Nat, s < 16 → (x >>> (nI s &&& 31)).toBitVec = x.toBitVec.sshiftRight s
  | 0, _ => rfl
  | 1, _ => rfl
  | 2, _ => rfl
  | 3, _ => rfl
  | 4, _ => rfl
  | 5, _ => rfl
  | 6, _ => rfl
  | 7, _ => rfl
  | 8, _ => rfl
  | 9, _ => rfl
  | 10, _ => rfl
  | 11, _ => rfl
  | 12, _ => rfl
  | 13, _ => rfl
  | 14, _ => rfl
  | 15, _ => rfl
  | n + 16, h => absurd h (by omega)
theorem sar_bit (x : Int32) (s j : Nat) (hs : s < 16) : ((x >>> (nI s &&& 31)) &&& 1).toBitVec.getLsbD j = (decide (j = 0) && x.toBitVec.getLsbD s) := by
  rw [Int32.toBitVec_and, BitVec.getLsbD_and, sar_bv x s hs, BitVec.getLsbD_sshiftRight]
  by_cases h : j = 0
  · subst h
    have : (1 : Int32).toBitVec.getLsbD 0 = true := rfl
    rw [this]
    have h2 : s < 32 := by omega
    simp [h2]
  · have : (1 : Int32).toBitVec.getLsbD j = false := by
      show (1#32).getLsbD j = false
      rw [BitVec.getLsbD_one]
      simp [h]
    rw [this]
    simp [h]
theorem sar_1 (x : Int32) (s : Nat) (hs : s < 16) (h : (x >>> (nI s &&& 31)) &&& 1 = 1) : x.toBitVec.getLsbD s = true := by
  have := sar_bit x s 0 hs
  rw [h] at this
  have e : (1 : Int32).toBitVec.getLsbD 0 = true := rfl
  rw [e] at this
  simpa using this.symm
theorem sar_nI (m s : Nat) (hm : m < 65536) (hs : s < 16) : (nI m >>> (nI s &&& 31)) &&& 1 = nI ((m >>> s) &&& 1) := by
  apply i32_ext
  intro j hj
  rw [sar_bit _ s j hs, nI_bv, nI_bv, BitVec.getLsbD_ofNat, BitVec.getLsbD_ofNat, Nat.testBit_and, Nat.testBit_shiftRight]
  by_cases h : j = 0
  · subst h
    have h2 : s < 32 := by omega
    simp [h2]
  · have : Nat.testBit 1 j = false := by
      have e : (1#32).getLsbD j = false := by
        rw [BitVec.getLsbD_one]
        simp [h]
      rw [show (1#32) = BitVec.ofNat 32 1 from rfl, BitVec.getLsbD_ofNat] at e
      simpa [hj] using e
    rw [this]
    simp [h]
def zstp (x s a : Int32) : Nat → Int32
  | 0 => a
  | i + 1 => if (x >>> (nI i &&& 31)) &&& 1 = 1 then zstp x s a i ||| (1 <<< ((nI i ^^^ s) &&& 31)) else zstp x s a i
theorem zstp_or (x s a : Int32) : ∀ i, zstp x s a i = a ||| zstp x s 0 i
  | 0 => Int32.or_zero.symm
  | i + 1 => by
    show (if (x >>> (nI i &&& 31)) &&& 1 = 1 then zstp x s a i ||| (1 <<< ((nI i ^^^ s) &&& 31)) else zstp x s a i) = a ||| (if (x >>> (nI i &&& 31)) &&& 1 = 1 then zstp x s 0 i ||| (1 <<< ((nI i ^^^ s) &&& 31)) else zstp x s 0 i)
    rw [zstp_or x s a i]
    by_cases c : (x >>> (nI i &&& 31)) &&& 1 = 1
    · rw [if_pos c, if_pos c, Int32.or_assoc]
    · rw [if_neg c, if_neg c]
theorem shl_bit : ∀ i : Nat, i < 16 → ∀ j : Nat, j < 32 → ((1 : Int32) <<< ((nI i ^^^ 0) &&& 31)).toBitVec.getLsbD j = decide (j = i) := by decide +kernel
theorem or_bit (x : Int32) (i : Nat) (hi : i < 16) (h : (x >>> (nI i &&& 31)) &&& 1 = 1) : x ||| (1 <<< ((nI i ^^^ 0) &&& 31)) = x := by
  apply i32_ext
  intro j hj
  rw [Int32.toBitVec_or, BitVec.getLsbD_or, shl_bit i hi j hj]
  by_cases e : j = i
  · subst e
    rw [sar_1 x j hi h]
    rfl
  · simp [e]
theorem zstp_0 (x : Int32) : ∀ i, i ≤ 16 → x ||| zstp x 0 0 i = x
  | 0, _ => Int32.or_zero
  | i + 1, hi => by
    show x ||| (if (x >>> (nI i &&& 31)) &&& 1 = 1 then zstp x 0 0 i ||| (1 <<< ((nI i ^^^ 0) &&& 31)) else zstp x 0 0 i) = x
    by_cases c : (x >>> (nI i &&& 31)) &&& 1 = 1
    · rw [if_pos c, ← Int32.or_assoc, zstp_0 x i (by omega), or_bit x i (by omega) c]
    · rw [if_neg c, zstp_0 x i (by omega)]
theorem shl_pow : ∀ i : Nat, i < 16 → ∀ s : Nat, s < 16 → (1 : Int32) <<< ((nI i ^^^ nI s) &&& 31) = nI (2 ^ (i ^^^ s)) ∧ 2 ^ (i ^^^ s) < 2 ^ 16 := by decide +kernel
theorem zstp_N (m s : Nat) (hm : m < 65536) (hs : s < 16) : ∀ i, i ≤ 16 → zstp (nI m) (nI s) 0 i = nI (zstN m s i)
  | 0, _ => rfl
  | i + 1, hi => by
    show (if (nI m >>> (nI i &&& 31)) &&& 1 = 1 then zstp (nI m) (nI s) 0 i ||| (1 <<< ((nI i ^^^ nI s) &&& 31)) else zstp (nI m) (nI s) 0 i) = nI (if (m >>> i) &&& 1 = 1 then zstN m s i ||| 2 ^ (i ^^^ s) else zstN m s i)
    have hb : (m >>> i) &&& 1 ≤ 1 := Nat.and_le_right
    rw [zstp_N m s hm hs i (by omega), sar_nI m i hm (by omega), (shl_pow i (by omega) s hs).1, nI_or]
    by_cases c : (m >>> i) &&& 1 = 1
    · rw [if_pos c, c]; rfl
    · rw [if_neg c]
      have hz : ¬ nI ((m >>> i) &&& 1) = 1 := fun z => c ((nI_eq (b := 1) (by omega) (by omega)).mp z)
      rw [if_neg hz]
def zrc (w : Nat → Int32) (mask : Int32) : Nat → Int32
  | 0 => 1
  | i + 1 => if i < 32 ∨ i = 39 then zrc w mask i ||| zstp (zrc w mask i) (zW1 w mask i &&& 15) 0 16 else zrc w mask i
theorem zrc_rng (w : Nat → Int32) (mask : Int32) : ∀ i, ∃ m, m ∈ zLs ∧ zrc w mask i = nI m
  | 0 => ⟨1, by decide, rfl⟩
  | i + 1 => by
    obtain ⟨m, m1, m2⟩ := zrc_rng w mask i
    show ∃ m, m ∈ zLs ∧ (if i < 32 ∨ i = 39 then zrc w mask i ||| zstp (zrc w mask i) (zW1 w mask i &&& 15) 0 16 else zrc w mask i) = nI m
    by_cases c : i < 32 ∨ i = 39
    · have hs : (zW1 w mask i).toBitVec.toNat % 16 < 16 := Nat.mod_lt _ (by decide)
      rw [if_pos c, and15, m2, zstp_N m _ (zLs_lt m m1) hs 16 (by omega), nI_or]
      exact ⟨_, zLs_st m m1 _ hs, rfl⟩
    · rw [if_neg c]; exact ⟨m, m1, m2⟩
theorem zrc_eq {w w1 : Nat → Int32} (mask : Int32) (h : ∀ i, i < 41 → w i = w1 i) : ∀ i, i ≤ 40 → zrc w mask i = zrc w1 mask i
  | 0, _ => rfl
  | i + 1, hi => by
    show (if i < 32 ∨ i = 39 then zrc w mask i ||| zstp (zrc w mask i) (zW1 w mask i &&& 15) 0 16 else zrc w mask i) = (if i < 32 ∨ i = 39 then zrc w1 mask i ||| zstp (zrc w1 mask i) (zW1 w1 mask i &&& 15) 0 16 else zrc w1 mask i)
    rw [zrc_eq mask h i (by omega), zW1_eq mask i (h i (by omega))]
theorem q2_withStep {x s : Int32} {Q : Int32 → Prop} (h : Q (zstp x s x 16)) : wp_X2_withStep x s Q := by
  unfold wp_X2_withStep
  refine zl4 (wp_X2_withStep_4 Q) 16 (fun i y0 y1 y2 y3 => y0 = x ∧ y1 = s ∧ y2 = zstp x s x i ∧ y3 = nI i) ?_ 0 (Nat.zero_le _) _ _ _ _ ⟨rfl, rfl, rfl, rfl⟩
  rintro i C y0 y1 y2 y3 hi ⟨rfl, rfl, rfl, rfl⟩ hC
  unfold wp_X2_withStep_4 wp_X2_withStep_27
  refine ⟨fun c => ?_, fun c => ?_⟩
  · have hi := nI_stop (N := 16) (by decide) hi c
    subst hi
    exact h
  · have hlt := nI_go (N := 16) (by decide) hi c
    have sl : zstp y0 y1 y0 (i + 1) = if (y0 >>> (nI i &&& 31)) &&& 1 = 1 then zstp y0 y1 y0 i ||| (1 <<< ((nI i ^^^ y1) &&& 31)) else zstp y0 y1 y0 i := rfl
    exact ⟨fun c1 a ea => hC _ _ _ _ hlt ⟨rfl, rfl, by rw [sl, if_neg c1], by rw [ea, nI_1]⟩, fun c1 b eb a ea => hC _ _ _ _ hlt ⟨rfl, rfl, by rw [sl, if_pos c1, eb], by rw [ea, nI_1]⟩⟩
theorem lt32 : ∀ i : Nat, i < 40 → ((nI i < 32) ↔ i < 32) := by decide +kernel
theorem eq39 : ∀ i : Nat, i < 40 → ((nI i = 39) ↔ i = 39) := by decide +kernel
theorem q2_reach {u : RS} {Q : Int32 → RS → Prop} (h : Q (zrc (u.1 1) (u.1 0 0) 40) u) : wp_X2_entriesInReach u Q := by
  unfold wp_X2_entriesInReach
  refine zl3 (wp_X2_entriesInReach_4 Q) 40 (fun i v y1 y2 => v = u ∧ y1 = zrc (u.1 1) (u.1 0 0) i ∧ y2 = nI i) ?_ 0 (Nat.zero_le _) _ _ _ ⟨rfl, rfl, rfl⟩
  rintro i C v y1 y2 hi ⟨rfl, rfl, rfl⟩ hC
  unfold wp_X2_entriesInReach_4 wp_X2_entriesInReach_33 wp_X2_entriesInReach_47 wp_X7_entryOfHash
  refine ⟨fun c => ?_, fun c => ?_⟩
  · have hi := nI_stop (N := 40) (by decide) hi c
    subst hi
    exact h
  · have hlt := nI_go (N := 40) (by decide) hi c
    rw [(zdec8 i hlt).1, zn_nI (by omega)]
    have sl : zrc (v.1 1) (v.1 0 0) (i + 1) = if i < 32 ∨ i = 39 then zrc (v.1 1) (v.1 0 0) i ||| zstp (zrc (v.1 1) (v.1 0 0) i) (zW1 (v.1 1) (v.1 0 0) i &&& 15) 0 16 else zrc (v.1 1) (v.1 0 0) i := rfl
    refine q2_counts (i / 8) rfl ?_
    cases hm : zmb (v.1 0 0) (i / 8) with
    | false =>
      have e0 : zW1 (v.1 1) (v.1 0 0) i = 0 := by unfold zW1; rw [hm]; rfl
      refine ⟨fun _ a ea => hC _ _ _ hlt ⟨rfl, ?_, by rw [ea, nI_1]⟩, fun z => absurd rfl z⟩
      rw [sl, e0]
      by_cases d : i < 32 ∨ i = 39
      · rw [if_pos d]; exact (zstp_0 _ 16 (by omega)).symm
      · rw [if_neg d]
    | true =>
      have e0 : zW1 (v.1 1) (v.1 0 0) i = v.1 1 i := by unfold zW1; rw [hm]; rfl
      rw [e0] at sl
      have yes : (i < 32 ∨ i = 39) → wp_X2_withStep (zrc (v.1 1) (v.1 0 0) i) (v.1 1 i &&& 15) (fun r109 => ∀ x105 : Int32, x105 = nI i + 1 → C v r109 x105) := fun d => q2_withStep (fun a ea => hC _ _ _ hlt ⟨rfl, by rw [sl, if_pos d, zstp_or], by rw [ea, nI_1]⟩)
      refine ⟨fun z => absurd z (by decide), fun _ => ⟨fun d => ⟨in_nI (by omega) (by decide), yes (Or.inl ((lt32 i hlt).mp d))⟩, fun d => ⟨fun d2 a ea => hC _ _ _ hlt ⟨rfl, ?_, by rw [ea, nI_1]⟩, fun d2 => ⟨in_nI (by omega) (by decide), yes (Or.inr ((eq39 i hlt).mp d2))⟩⟩⟩⟩
      rw [sl, if_neg]
      rintro (q | q)
      · exact d ((lt32 i hlt).mpr q)
      · exact d2 ((eq39 i hlt).mpr q)
theorem q8_reachL {u : RS} {Q : Int32 → RS → Prop} (h : ∀ m, m ∈ zLs → zrc (zwin (u.1 3 0) (u.1 3 1) (u.1 3 2)) (u.1 3 3) 40 = nI m → Q (nI (zpc m 16)) u) : ∃ n, zit3 (wp_X8_reach_9 Q) n u 1 0 := by
  obtain ⟨w, ew⟩ : ∃ w, w = zwin (u.1 3 0) (u.1 3 1) (u.1 3 2) := ⟨_, rfl⟩
  rw [← ew] at h
  refine zl3 (wp_X8_reach_9 Q) 40 (fun i v y1 y2 => v = u ∧ y1 = zrc w (u.1 3 3) i ∧ y2 = nI i) ?_ 0 (Nat.zero_le _) _ _ _ ⟨rfl, rfl, rfl⟩
  rintro i C v y1 y2 hi ⟨rfl, rfl, rfl⟩ hC
  unfold wp_X8_reach_9
  refine ⟨fun c => ?_, fun c => q8_part i rfl ?_ (fun s es => ?_)⟩
  · have hi := nI_stop (N := 40) (by decide) hi c
    subst hi
    obtain ⟨m, m1, m2⟩ := zrc_rng w (v.1 3 3) 40
    rw [m2]
    refine zl4 (wp_X8_reach_99 Q) 16 (fun i x y1 y2 y3 => x = v ∧ y1 = nI m ∧ y2 = nI (zpc m i) ∧ y3 = nI i) ?_ 0 (Nat.zero_le _) _ _ _ _ ⟨rfl, rfl, rfl, rfl⟩
    rintro i C x y1 y2 y3 hi ⟨rfl, rfl, rfl, rfl⟩ hC
    unfold wp_X8_reach_99
    refine ⟨fun c => ?_, fun c a ea b eb => ?_⟩
    · have hi := nI_stop (N := 16) (by decide) hi c
      subst hi
      exact h m m1 m2
    · have hlt := nI_go (N := 16) (by decide) hi c
      rw [sar_nI m i (zLs_lt m m1) hlt, nI_add] at ea
      exact hC _ _ _ _ hlt ⟨rfl, rfl, ea, by rw [eb, nI_1]⟩
  · exact nI_go (N := 40) (by decide) hi c
  · have hlt := nI_go (N := 40) (by decide) hi c
    rw [← ew] at es
    have sl : zrc w (v.1 3 3) (i + 1) = if i < 32 ∨ i = 39 then zrc w (v.1 3 3) i ||| zstp (zrc w (v.1 3 3) i) (zW1 w (v.1 3 3) i &&& 15) 0 16 else zrc w (v.1 3 3) i := rfl
    rw [← es] at sl
    obtain ⟨x, ex⟩ : ∃ x, x = zrc w (v.1 3 3) i := ⟨_, rfl⟩
    rw [← ex] at sl ⊢
    refine zl6 (wp_X8_reach_30 Q C) 16 (fun j v1 y1 y2 y3 y4 y5 => v1 = v ∧ y1 = x ∧ y2 = nI i ∧ y3 = s ∧ y4 = zstp x s 0 j ∧ y5 = nI j) ?_ 0 (Nat.zero_le _) _ _ _ _ _ _ ⟨rfl, rfl, rfl, rfl, rfl, rfl⟩
    rintro j D v1 y1 y2 y3 y4 y5 hj ⟨rfl, rfl, rfl, rfl, rfl, rfl⟩ hD
    unfold wp_X8_reach_30 wp_X8_reach_81 wp_X8_reach_87 wp_X8_reach_59
    refine ⟨fun c => ?_, fun c => ?_⟩
    · have hj := nI_stop (N := 16) (by decide) hj c
      subst hj
      refine ⟨fun d a ea b eb => hC _ _ _ hlt ⟨rfl, by rw [sl, if_pos (Or.inl ((lt32 i hlt).mp d)), ea], by rw [eb, nI_1]⟩, fun d => ⟨fun d2 a ea b eb => hC _ _ _ hlt ⟨rfl, ?_, by rw [eb, nI_1]⟩, fun d2 a ea b eb => hC _ _ _ hlt ⟨rfl, by rw [sl, if_pos (Or.inr ((eq39 i hlt).mp d2)), ea], by rw [eb, nI_1]⟩⟩⟩
      rw [sl, if_neg, ea]
      · exact Int32.or_zero
      · rintro (q | q)
        · exact d ((lt32 i hlt).mpr q)
        · exact d2 ((eq39 i hlt).mpr q)
    · have hjt := nI_go (N := 16) (by decide) hj c
      have sl2 : zstp y1 y3 0 (j + 1) = if (y1 >>> (nI j &&& 31)) &&& 1 = 1 then zstp y1 y3 0 j ||| (1 <<< ((nI j ^^^ y3) &&& 31)) else zstp y1 y3 0 j := rfl
      refine ⟨fun c1 a ea b eb => hD _ _ _ _ _ _ hjt ⟨rfl, rfl, rfl, rfl, ?_, by rw [eb, nI_1]⟩, fun c1 a ea b eb => hD _ _ _ _ _ _ hjt ⟨rfl, rfl, rfl, rfl, by rw [sl2, if_pos c1, ea], by rw [eb, nI_1]⟩⟩
      rw [sl2, if_neg c1, ea]
      exact Int32.or_zero
theorem p_reach {B : Nat} : pX_reach (Rel B) (Rel (B + 30000)) := by
  intro u r h
  replace h := h.up 30000
  have h0 : Rel (B + 30000) u (rN r 0 0) := h
  obtain ⟨n, nr, m, hX⟩ := h.2.2.1.1.x
  have hK := hX.2.1
  unfold wp_X7_reach
  refine q2_reach (fun u1 e1 => ?_)
  rw [tN_id] at e1
  subst e1
  rw [hK.2.2.1, zrc_eq _ hK.1 40 (by omega)]
  obtain ⟨k, k1, k2⟩ := zrc_rng (zwin (r.1 3 0) (r.1 3 1) (r.1 3 2)) (r.1 3 3) 40
  rw [k2]
  refine qJ_bitCount k (zLs_lt k k1) ?_
  unfold wp_X8_reach
  intro r1 f1
  subst f1
  refine q8_reachL (fun k' a1 a2 => ⟨?_, h0⟩)
  have a3 : nI k = nI k' := k2.symm.trans a2
  have b1 := zLs_lt k k1
  have b2 := zLs_lt k' a1
  have : k = k' := (nI_eq (by omega) (by omega)).mp a3
  rw [this]
