-- the pure side: windows of a key
theorem zu_bv (x : Int32) : ∀ s : Nat, s < 32 → (zu x (nI s)).toBitVec = x.toBitVec >>> s
  | 0, _ => rfl
  | 1, _ => rfl
  | 2, _ => rfl
  | 3, _ => rfl
  | 4, _ => rfl
  | 5, _ => rfl
  | 6, _ => rfl
  | 7, _ => rfl
  | 8, _ => rfl
  | 9, _ => rfl
  | 10, _ => rfl
  | 11, _ => rfl
  | 12, _ => rfl
  | 13, _ => rfl
  | 14, _ => rfl
  | 15, _ => rfl
  | 16, _ => rfl
  | 17, _ => rfl
  | 18, _ => rfl
  | 19, _ => rfl
  | 20, _ => rfl
  | 21, _ => rfl
  | 22, _ => rfl
  | 23, _ => rfl
  | 24, _ => rfl
  | 25, _ => rfl
  | 26, _ => rfl
  | 27, _ => rfl
  | 28, _ => rfl
  | 29, _ => rfl
  | 30, _ => rfl
  | 31, _ => rfl
  | n + 32, h => absurd h (by omega)
theorem nI_lsubl {a n : Nat} (h : a ≤ OfNat.ofNat n) : (OfNat.ofNat n : Int32) - nI a = nI (OfNat.ofNat n - a) := nI_sub h
def kbit (a b c : Int32) (i : Nat) : Bool := if i < 32 then a.toBitVec.getLsbD (31 - i) else if i < 64 then b.toBitVec.getLsbD (63 - i) else if i < 72 then c.toBitVec.getLsbD (71 - i) else false
theorem zu_bit (x : Int32) (s j : Nat) (hs : s < 32) : (zu x (nI s) &&& 1).toBitVec.getLsbD j = (decide (j = 0) && x.toBitVec.getLsbD s) := by
  rw [Int32.toBitVec_and, BitVec.getLsbD_and, zu_bv x s hs, BitVec.getLsbD_ushiftRight]
  by_cases h : j = 0
  · subst h
    simp
  · have : (1 : Int32).toBitVec.getLsbD j = false := by
      show (1#32).getLsbD j = false
      rw [BitVec.getLsbD_one]
      simp [h]
    rw [this]
    simp [h]
theorem zkb_bit (a b c : Int32) (i j : Nat) (hi : i < 100) : (zkb a b c i).toBitVec.getLsbD j = (decide (j = 0) && kbit a b c i) := by
  unfold zkb kbit
  by_cases h1 : 32 ≤ i
  · rw [if_pos h1, if_neg (show ¬ i < 32 by omega)]
    by_cases h2 : 64 ≤ i
    · rw [if_pos h2, if_neg (show ¬ i < 64 by omega)]
      by_cases h3 : 72 ≤ i
      · rw [if_pos h3, if_neg (show ¬ i < 72 by omega)]
        show (0#32).getLsbD j = _
        simp
      · rw [if_neg h3, if_pos (show i < 72 by omega), nI_lsubl (by omega)]
        exact zu_bit c (71 - i) j (by omega)
    · rw [if_neg h2, if_pos (show i < 64 by omega), nI_lsubl (by omega)]
      exact zu_bit b (63 - i) j (by omega)
  · rw [if_neg h1, if_pos (show i < 32 by omega), nI_lsubl (by omega)]
    exact zu_bit a (31 - i) j (by omega)
theorem sh1_bv (x : Int32) : (x <<< ((1 : Int32) &&& 31)).toBitVec = x.toBitVec <<< 1 := rfl
theorem zwinN_bit (a b c : Int32) (i : Nat) (hi : i < 60) : ∀ k, k ≤ 32 → ∀ j, j < 32 → (zwinN a b c i k).toBitVec.getLsbD j = (decide (j < k) && kbit a b c (i + (k - 1 - j)))
  | 0, _, j, _ => by
    show (0#32).getLsbD j = _
    simp
  | k + 1, hk, j, hj => by
    show ((zwinN a b c i k <<< ((1 : Int32) &&& 31)) ||| zkb a b c (i + k)).toBitVec.getLsbD j = _
    rw [Int32.toBitVec_or, BitVec.getLsbD_or, sh1_bv, BitVec.getLsbD_shiftLeft, zkb_bit _ _ _ _ _ (by omega)]
    by_cases h : j = 0
    · subst h
      simp
    · have ih := zwinN_bit a b c i hi k (by omega) (j - 1) (by omega)
      rw [ih]
      have e : k - 1 - (j - 1) = k + 1 - 1 - j := by omega
      rw [e]
      by_cases h2 : j < k + 1
      · have h3 : j - 1 < k := by omega
        have h4 : ¬ j < 1 := by omega
        simp [h, h2, h3, h4, hj]
      · have h3 : ¬ j - 1 < k := by omega
        simp [h, h2, h3]
theorem zwin_bit (a b c : Int32) (i j : Nat) (hi : i < 60) (hj : j < 32) : (zwin a b c i).toBitVec.getLsbD j = kbit a b c (i + (31 - j)) := by
  unfold zwin
  rw [zwinN_bit a b c i hi 32 (Nat.le_refl _) j hj]
  simp [hj]
theorem i32_ext {x y : Int32} (h : ∀ j, j < 32 → x.toBitVec.getLsbD j = y.toBitVec.getLsbD j) : x = y := by
  apply Int32.toBitVec_inj.mp
  exact BitVec.eq_of_getLsbD_eq (fun j hj => h j hj)
def zboth (a b : Int32) : Int64 := (a.toInt64 <<< ((32 : Int32).toInt64 &&& 63)) ||| (b.toInt64 &&& 4294967295)
theorem zul_bv0 (y : Int64) : ∀ s : Nat, s < 33 → (zul y (nI s)).toBitVec = y.toBitVec >>> s
  | 0, _ => rfl
  | 1, _ => rfl
  | 2, _ => rfl
  | 3, _ => rfl
  | 4, _ => rfl
  | 5, _ => rfl
  | 6, _ => rfl
  | 7, _ => rfl
  | 8, _ => rfl
  | 9, _ => rfl
  | 10, _ => rfl
  | 11, _ => rfl
  | 12, _ => rfl
  | 13, _ => rfl
  | 14, _ => rfl
  | 15, _ => rfl
  | 16, _ => rfl
  | 17, _ => rfl
  | 18, _ => rfl
  | 19, _ => rfl
  | 20, _ => rfl
  | 21, _ => rfl
  | 22, _ => rfl
  | 23, _ => rfl
  | 24, _ => rfl
  | 25, _ => rfl
  | 26, _ => rfl
  | 27, _ => rfl
  | 28, _ => rfl
  | 29, _ => rfl
  | 30, _ => rfl
  | 31, _ => rfl
  | 32, _ => rfl
  | n + 33, h => absurd h (by omega)
theorem zul_bv (y : Int64) (s : Nat) (h : s < 33) : ((zul y (nI s)).toInt32).toBitVec = (y.toBitVec >>> s).setWidth 32 := by
  show ((zul y (nI s)).toBitVec.signExtend 32) = _
  rw [BitVec.signExtend_eq_setWidth_of_le _ (by decide), zul_bv0 y s h]
theorem sh32_bv (x : Int64) : (x <<< ((32 : Int32).toInt64 &&& 63)).toBitVec = x.toBitVec <<< 32 := rfl
theorem i64_bv (x : Int32) : (x.toInt64).toBitVec = x.toBitVec.signExtend 64 := rfl
theorem ff_bit : ∀ j : Nat, j < 64 → ((4294967295 : Int64).toBitVec.getLsbD j = decide (j < 32)) := by decide +kernel
theorem zboth_bit (a b : Int32) (m : Nat) (hm : m < 64) : (zboth a b).toBitVec.getLsbD m = if m < 32 then b.toBitVec.getLsbD m else a.toBitVec.getLsbD (m - 32) := by
  unfold zboth
  rw [Int64.toBitVec_or, BitVec.getLsbD_or, sh32_bv, BitVec.getLsbD_shiftLeft, Int64.toBitVec_and, BitVec.getLsbD_and, ff_bit m hm, i64_bv, i64_bv, BitVec.getLsbD_signExtend, BitVec.getLsbD_signExtend]
  by_cases h : m < 32
  · simp [h, hm]
  · have h2 : m - 32 < 32 := by omega
    have h3 : m - 32 < 64 := by omega
    simp [h, hm, h2, h3]
theorem zwin_low (a b c : Int32) (i : Nat) (hi : i ≤ 32) : (zul (zboth a b) (32 - nI i)).toInt32 = zwin a b c i := by
  refine i32_ext (fun j hj => ?_)
  rw [zwin_bit a b c i j (by omega) hj, nI_lsubl (by omega), zul_bv _ (32 - i) (by omega), BitVec.getLsbD_setWidth, BitVec.getLsbD_ushiftRight, zboth_bit _ _ _ (by omega)]
  unfold kbit
  by_cases h : j < i
  · rw [if_pos (by omega), if_neg (by omega), if_pos (by omega), show 63 - (i + (31 - j)) = 32 - i + j by omega]
    simp [hj]
  · rw [if_neg (by omega), if_pos (by omega), show 31 - (i + (31 - j)) = 32 - i + j - 32 by omega]
    simp [hj]
theorem shl_bv (x : Int32) : ∀ s : Nat, s < 32 → (x <<< (nI s &&& 31)).toBitVec = x.toBitVec <<< s
  | 0, _ => rfl
  | 1, _ => rfl
  | 2, _ => rfl
  | 3, _ => rfl
  | 4, _ => rfl
  | 5, _ => rfl
  | 6, _ => rfl
  | 7, _ => rfl
  | 8, _ => rfl
  | 9, _ => rfl
  | 10, _ => rfl
  | 11, _ => rfl
  | 12, _ => rfl
  | 13, _ => rfl
  | 14, _ => rfl
  | 15, _ => rfl
  | 16, _ => rfl
  | 17, _ => rfl
  | 18, _ => rfl
  | 19, _ => rfl
  | 20, _ => rfl
  | 21, _ => rfl
  | 22, _ => rfl
  | 23, _ => rfl
  | 24, _ => rfl
  | 25, _ => rfl
  | 26, _ => rfl
  | 27, _ => rfl
  | 28, _ => rfl
  | 29, _ => rfl
  | 30, _ => rfl
  | 31, _ => rfl
  | n + 32, h => absurd h (by omega)
theorem byte_bit : ∀ v : Nat, v < 256 → ∀ j : Nat, j < 40 → 8 ≤ j → (nI v).toBitVec.getLsbD j = false := by decide +kernel
theorem zwin_high (a b c : Int32) (i : Nat) (hi : 32 < i) (hi2 : i ≤ 40) (hc : zbyte c) : (b <<< ((nI i - 32) &&& 31)) ||| zu c (40 - nI i) = zwin a b c i := by
  obtain ⟨v, hv, rfl⟩ := hc
  refine i32_ext (fun j hj => ?_)
  rw [zwin_bit a b _ i j (by omega) hj, nI_lsubl (by omega), nI_subl (by omega), Int32.toBitVec_or, BitVec.getLsbD_or, shl_bv _ (i - 32) (by omega), zu_bv _ (40 - i) (by omega), BitVec.getLsbD_shiftLeft, BitVec.getLsbD_ushiftRight]
  unfold kbit
  by_cases h : j < i - 32
  · rw [if_neg (by omega), if_neg (by omega), if_pos (by omega), show 71 - (i + (31 - j)) = 40 - i + j by omega]
    simp [h]
  · rw [if_neg (by omega), if_pos (by omega), byte_bit v hv (40 - i + j) (by omega) (by omega), show 63 - (i + (31 - j)) = j - (i - 32) by omega]
    simp [h, hj]
theorem q2_put {u : RS} {a b c : Int32} {Q : RS → Prop} (hc : zbyte c) (h : ∀ w : RS, w.1 0 = u.1 0 → (∀ i, i < 41 → w.1 1 i = zwin a b c i) → Q w) : wp_X2_put u a b c Q := by
  unfold wp_X2_put
  intro y ey
  have ey : y = zboth a b := ey
  subst ey
  refine zl5 (wp_X2_put_17 Q) 33 (fun i v y2 y3 y4 y6 => v.1 0 = u.1 0 ∧ (∀ k, k < i → v.1 1 k = zwin a b c k) ∧ y2 = b ∧ y3 = c ∧ y4 = zboth a b ∧ y6 = nI i) ?_ 0 (Nat.zero_le _) u b c _ 0 ⟨rfl, fun k hk => absurd hk (Nat.not_lt_zero k), rfl, rfl, rfl, rfl⟩
  rintro i B v y2 y3 y4 y6 hi ⟨d, hw, rfl, rfl, rfl, rfl⟩ hB
  unfold wp_X2_put_17
  refine ⟨fun hc1 => ?_, fun hc1 => ?_⟩
  · have : 32 < i := (nI_ltI (by omega) (by omega)).mp (show nI 32 < nI i from hc1)
    have hi33 : i = 33 := by omega
    subst hi33
    refine zl4 (wp_X2_put_50 Q) 8 (fun i v z2 z3 z6 => v.1 0 = u.1 0 ∧ (∀ k, k < 33 + i → v.1 1 k = zwin a y2 y3 k) ∧ z2 = y2 ∧ z3 = y3 ∧ z6 = nI (33 + i)) ?_ 0 (Nat.zero_le _) v y2 y3 33 ⟨d, hw, rfl, rfl, rfl⟩
    rintro i B v z2 z3 z6 hi ⟨d, hw, rfl, rfl, rfl⟩ hB
    unfold wp_X2_put_50
    refine ⟨fun hc2 => ?_, fun hc2 => ?_⟩
    · have : 41 ≤ 33 + i := (nI_leI (by omega) (by omega)).mp (show nI 41 ≤ nI (33 + i) from hc2)
      exact h v d (fun k hk => hw k (by omega))
    · have hlt : i < 8 := by
        rcases Nat.lt_or_ge i 8 with q | q
        · exact q
        · exact absurd (show nI 41 ≤ nI (33 + i) from nI_le (by omega) (by omega)) hc2
      refine ⟨in_nI (by omega) (by decide), fun w ew z ez => hB _ _ _ _ hlt ⟨?_, fun k hk => ?_, rfl, rfl, by rw [ez, nI_1]; rfl⟩⟩
      · rw [ew, rI_n _ _ (by decide)]; exact d
      · rw [ew, rI_s, zn_nI (by omega)]
        by_cases e : k = 33 + i
        · rw [e, pk_us]; exact zwin_high a z2 z3 (33 + i) (by omega) (by omega) hc
        · rw [pk_un e]; exact hw k (by omega)
  · have hlt : i < 33 := by
      rcases Nat.lt_or_ge i 33 with q | q
      · exact q
      · exact absurd (show nI 32 < nI i from nI_lt (by omega) (by omega)) hc1
    refine ⟨in_nI (by omega) (by decide), fun w ew z ez => hB _ _ _ _ _ hlt ⟨?_, fun k hk => ?_, rfl, rfl, rfl, by rw [ez, nI_1]⟩⟩
    · rw [ew, rI_n _ _ (by decide)]; exact d
    · rw [ew, rI_s, zn_nI (by omega)]
      by_cases e : k = i
      · rw [e, pk_us]; exact zwin_low a y2 y3 i (by omega)
      · rw [pk_un e]; exact hw k (by omega)
