-- the pure side: hashes
def zkb (a b c : Int32) (i : Nat) : Int32 := if 32 ≤ i then (if 64 ≤ i then (if 72 ≤ i then 0 else zu c (71 - nI i) &&& 1) else zu b (63 - nI i) &&& 1) else zu a (31 - nI i) &&& 1
def zwinN (a b c : Int32) (i : Nat) : Nat → Int32
  | 0 => 0
  | k + 1 => (zwinN a b c i k <<< (1 &&& 31)) ||| zkb a b c (i + k)
def zwin (a b c : Int32) (i : Nat) : Int32 := zwinN a b c i 32
theorem q8_keyBit {u : RS} {x1 : Int32} {Q : Int32 → RS → Prop} (i : Nat) (e : x1 = nI i) (hi : i < 100) (h : Q (zkb (u.1 3 0) (u.1 3 1) (u.1 3 2) i) u) : wp_X8_keyBit u x1 Q := by
  subst e
  have c : ∀ k : Nat, k < 100 → ((nI k ≤ nI i) ↔ k ≤ i) := fun k hk => nI_leI (by omega) (by omega)
  unfold wp_X8_keyBit wp_X8_keyBit_67
  unfold zkb at h
  refine ⟨fun h1 => ?_, fun h1 => ?_⟩
  · have h1 : 32 ≤ i := (c 32 (by omega)).mp h1
    rw [if_pos h1] at h
    refine ⟨fun h2 => ?_, fun h2 => ?_⟩
    · have h2 : 64 ≤ i := (c 64 (by omega)).mp h2
      rw [if_pos h2] at h
      refine ⟨fun h3 => ?_, fun h3 => ?_⟩
      · rw [if_pos ((c 72 (by omega)).mp h3)] at h; exact h
      · rw [if_neg (fun z => h3 ((c 72 (by omega)).mpr z))] at h; exact h
    · rw [if_neg (fun z => h2 ((c 64 (by omega)).mpr z))] at h; exact h
  · rw [if_neg (fun z => h1 ((c 32 (by omega)).mpr z))] at h; exact h
theorem q8_windowAt {u : RS} {x1 : Int32} {Q : Int32 → RS → Prop} (i : Nat) (e : x1 = nI i) (hi : i < 60) (h : Q (zwin (u.1 3 0) (u.1 3 1) (u.1 3 2) i) u) : wp_X8_windowAt u x1 Q := by
  subst e
  unfold wp_X8_windowAt
  refine zl4 (wp_X8_windowAt_4 Q) 32 (fun k v y1 y2 y3 => v = u ∧ y1 = nI i ∧ y2 = zwinN (u.1 3 0) (u.1 3 1) (u.1 3 2) i k ∧ y3 = nI k) ?_ 0 (Nat.zero_le _) u _ 0 0 ⟨rfl, rfl, rfl, rfl⟩
  rintro k B v y1 y2 y3 hk ⟨rfl, rfl, rfl, rfl⟩ hB
  unfold wp_X8_windowAt_4
  refine ⟨fun hc => ?_, fun hc => ?_⟩
  · have : 32 ≤ k := (nI_leI (by omega) (by omega)).mp (show nI 32 ≤ nI k from hc)
    rw [show k = 32 by omega]; exact h
  · have hlt : k < 32 := by
      rcases Nat.lt_or_ge k 32 with q | q
      · exact q
      · exact absurd (show nI 32 ≤ nI k from nI_le q (by omega)) hc
    rw [nI_add]
    exact q8_keyBit (i + k) rfl (by omega) (fun y ey z ez => hB _ _ _ _ hlt ⟨rfl, rfl, by rw [ey]; rfl, by rw [ez, nI_1]⟩)
def zmb (mask : Int32) (k : Nat) : Bool := decide ((mask >>> (nI k &&& 31)) &&& 1 = 1)
def zfb (v : Int32) (j : Nat) : Bool := decide (zu v (7 - nI j) &&& 1 = 1)
/-- the hash after i bits -/
def zH (w : Nat → Int32) (mask : Int32) (fl : Nat → Int32) : Nat → Int32
  | 0 => 0
  | i + 1 => zH w mask fl i ^^^ (if zmb mask (i / 8) && zfb (fl (i / 8)) (i % 8) then w i else 0)
theorem zdec8 : ∀ i : Nat, i < 40 → nI i / 8 = nI (i / 8) ∧ nI i - nI (i / 8) * 8 = nI (i % 8) := by decide +kernel
theorem q8_hashNow {u : RS} {Q : Int32 → RS → Prop} (h : Q (zH (zwin (u.1 3 0) (u.1 3 1) (u.1 3 2)) (u.1 3 3) (u.1 14) 40) u) : wp_X8_hashNow u Q := by
  unfold wp_X8_hashNow
  refine zl3 (wp_X8_hashNow_4 Q) 40 (fun i v y1 y2 => v = u ∧ y1 = zH (zwin (u.1 3 0) (u.1 3 1) (u.1 3 2)) (u.1 3 3) (u.1 14) i ∧ y2 = nI i) ?_ 0 (Nat.zero_le _) u 0 0 ⟨rfl, rfl, rfl⟩
  rintro i B v y1 y2 hi ⟨rfl, rfl, rfl⟩ hB
  unfold wp_X8_hashNow_4
  refine ⟨fun hc => ?_, fun hc => ?_⟩
  · have : 40 ≤ i := (nI_leI (by omega) (by omega)).mp (show nI 40 ≤ nI i from hc)
    rw [show i = 40 by omega]; exact h
  · have hlt : i < 40 := by
      rcases Nat.lt_or_ge i 40 with q | q
      · exact q
      · exact absurd (show nI 40 ≤ nI i from nI_le q (by omega)) hc
    obtain ⟨e1, e2⟩ := zdec8 i hlt
    rw [e1, e2]
    have fin : ∀ t : Int32, (t = if zmb (v.1 3 3) (i / 8) && zfb (v.1 14 (i / 8)) (i % 8) then zwin (v.1 3 0) (v.1 3 1) (v.1 3 2) i else 0) → wp_X8_hashNow_70 Q B v (nI i) t (zH (zwin (v.1 3 0) (v.1 3 1) (v.1 3 2)) (v.1 3 3) (v.1 14) i) := by
      intro t et
      unfold wp_X8_hashNow_70
      intro y ey z ez
      exact hB _ _ _ hlt ⟨rfl, by rw [ey, et]; rfl, by rw [ez, nI_1]⟩
    have no : (zmb (v.1 3 3) (i / 8) && zfb (v.1 14 (i / 8)) (i % 8)) = false → wp_X8_hashNow_54 Q B v (zH (zwin (v.1 3 0) (v.1 3 1) (v.1 3 2)) (v.1 3 3) (v.1 14) i) (nI i) := by
      intro hz
      unfold wp_X8_hashNow_54 wp_X8_hashNow_55
      refine ⟨fun _ => fin 0 (by rw [hz]; rfl), fun z => absurd rfl z⟩
    refine ⟨fun c1 => no (by simp [zmb, c1]), fun c1 => ⟨in_nI (by omega) (by decide), ?_⟩⟩
    rw [zn_nI (by omega)]
    refine ⟨fun c2 => no (by simp [zfb, c2]), fun c2 => ?_⟩
    unfold wp_X8_hashNow_55
    refine ⟨fun z => absurd z (by decide), fun _ => ?_⟩
    exact q8_windowAt i rfl (by omega) (fin _ (by rw [show (zmb (v.1 3 3) (i / 8) && zfb (v.1 14 (i / 8)) (i % 8)) = true by simp [zmb, zfb, c1, c2]]; rfl))
/-- what one field gives, after j bits -/
def zP (w : Nat → Int32) (v : Int32) (k : Nat) : Nat → Int32
  | 0 => 0
  | j + 1 => if (v <<< (nI j &&& 31)) &&& 128 = 0 then zP w v k j else zP w v k j ^^^ w (8 * k + j)
def zpart (w : Nat → Int32) (mask v : Int32) (k : Nat) : Int32 := if zmb mask k then zP w v k 8 else 0
theorem q2_counts {u : RS} {x1 : Int32} {Q : Int32 → RS → Prop} (k : Nat) (e : x1 = nI k) (h : Q (if zmb (u.1 0 0) k then 1 else 0) u) : wp_X2_counts u x1 Q := by
  subst e
  unfold wp_X2_counts wp_X2_counts_17
  unfold zmb at h
  refine ⟨fun c => ⟨Or.inl rfl, ?_⟩, fun c => ⟨Or.inr rfl, ?_⟩⟩
  · simp only [c, decide_false] at h; exact h
  · simp only [c, decide_true] at h; exact h
theorem q2_part {u : RS} {x1 x2 : Int32} {Q : Int32 → RS → Prop} (k : Nat) (e : x1 = nI k) (hk : k < 5) (h : Q (zpart (u.1 1) (u.1 0 0) x2 k) u) : wp_X2_part u x1 x2 Q := by
  unfold wp_X2_part
  refine q2_counts k e ?_
  unfold zpart at h
  cases hm : zmb (u.1 0 0) k with
  | false =>
    rw [hm] at h
    exact ⟨fun z => absurd rfl z, fun _ => h⟩
  | true =>
    rw [hm] at h
    refine ⟨fun _ => ?_, fun z => absurd z (by decide)⟩
    refine zl5 (wp_X2_part_15 Q) 8 (fun j v y1 y2 y3 y4 => v = u ∧ y1 = x1 ∧ y2 = x2 ∧ y3 = zP (u.1 1) x2 k j ∧ y4 = nI j) ?_ 0 (Nat.zero_le _) u x1 x2 0 0 ⟨rfl, rfl, rfl, rfl, rfl⟩
    rintro j B v y1 y2 y3 y4 hj ⟨rfl, rfl, rfl, rfl, rfl⟩ hB
    unfold wp_X2_part_15
    refine ⟨fun hc => ?_, fun hc => ?_⟩
    · have : 8 ≤ j := (nI_leI (by omega) (by omega)).mp (show nI 8 ≤ nI j from hc)
      rw [show j = 8 by omega]; exact h
    · have hlt : j < 8 := by
        rcases Nat.lt_or_ge j 8 with q | q
        · exact q
        · exact absurd (show nI 8 ≤ nI j from nI_le q (by omega)) hc
      refine ⟨fun c => ?_, fun c => ?_⟩
      · unfold wp_X2_part_48
        intro y ey
        exact hB _ _ _ _ _ hlt ⟨rfl, rfl, rfl, by show _ = if _ then _ else _; rw [if_pos c], by rw [ey, nI_1]⟩
      · rw [e, nI_lmul, nI_add, zn_nI (by omega)]
        refine ⟨in_nI (by omega) (by decide), fun z ez => ?_⟩
        unfold wp_X2_part_48
        intro y ey
        exact hB _ _ _ _ _ hlt ⟨rfl, e.symm, rfl, by show _ = if _ then _ else _; rw [if_neg c, ez], by rw [ey, nI_1]⟩
def zhf (w : Nat → Int32) (mask a1 a2 a3 a4 a5 : Int32) : Int32 := (((zpart w mask a1 0 ^^^ zpart w mask a2 1) ^^^ zpart w mask a3 2) ^^^ zpart w mask a4 3) ^^^ zpart w mask a5 4
theorem q2_hashFields {u : RS} {a1 a2 a3 a4 a5 : Int32} {Q : Int32 → RS → Prop} (h : Q (zhf (u.1 1) (u.1 0 0) a1 a2 a3 a4 a5) u) : wp_X2_hashFields u a1 a2 a3 a4 a5 Q := by
  unfold wp_X2_hashFields
  exact q2_part 0 rfl (by omega) (q2_part 1 rfl (by omega) (q2_part 2 rfl (by omega) (q2_part 3 rfl (by omega) (q2_part 4 rfl (by omega) h))))
theorem zbits : ∀ v : Nat, v < 256 → ∀ j : Nat, j < 8 → (((nI v <<< (nI j &&& 31)) &&& 128 = 0) ↔ zfb (nI v) j = false) := by decide +kernel
def zbyte (v : Int32) : Prop := ∃ k : Nat, k < 256 ∧ v = nI k
theorem zH_step (w : Nat → Int32) (mask : Int32) (fl : Nat → Int32) (k : Nat) (hb : zbyte (fl k)) : zH w mask fl (8 * (k + 1)) = zH w mask fl (8 * k) ^^^ zpart w mask (fl k) k := by
  obtain ⟨v, hv, ev⟩ := hb
  have key : ∀ j, j ≤ 8 → zH w mask fl (8 * k + j) = zH w mask fl (8 * k) ^^^ (if zmb mask k then zP w (fl k) k j else 0) := by
    intro j
    induction j with
    | zero => intro _; show zH w mask fl (8 * k) = _; split <;> exact (Int32.xor_zero).symm
    | succ j ih =>
      intro hj
      have ih := ih (by omega)
      show zH w mask fl (8 * k + j) ^^^ (if zmb mask ((8 * k + j) / 8) && zfb (fl ((8 * k + j) / 8)) ((8 * k + j) % 8) then w (8 * k + j) else 0) = _
      rw [show (8 * k + j) / 8 = k by omega, show (8 * k + j) % 8 = j by omega, ih]
      have hz := zbits v hv j (by omega)
      rw [← ev] at hz
      cases hm : zmb mask k with
      | false => simp
      | true =>
        show _ = zH w mask fl (8 * k) ^^^ (if (fl k <<< (nI j &&& 31)) &&& 128 = 0 then zP w (fl k) k j else zP w (fl k) k j ^^^ w (8 * k + j))
        cases hf : zfb (fl k) j with
        | false =>
          have hp : (fl k <<< (nI j &&& 31)) &&& 128 = 0 := hz.mpr hf
          rw [if_pos hp]
          simp
        | true =>
          have hne : ¬ ((fl k <<< (nI j &&& 31)) &&& 128 = 0) := by
            intro z
            rw [hz.mp z] at hf
            cases hf
          rw [if_neg hne]
          simp [Int32.xor_assoc]
  have := key 8 (Nat.le_refl 8)
  rw [show 8 * (k + 1) = 8 * k + 8 by omega, this]
  rfl
theorem zH_hf (w : Nat → Int32) (mask : Int32) (fl : Nat → Int32) (hb : ∀ k, k < 5 → zbyte (fl k)) : zH w mask fl 40 = zhf w mask (fl 0) (fl 1) (fl 2) (fl 3) (fl 4) := by
  have s := fun k hk => zH_step w mask fl k (hb k hk)
  have e0 := s 0 (by omega)
  have e1 := s 1 (by omega)
  have e2 := s 2 (by omega)
  have e3 := s 3 (by omega)
  have e4 := s 4 (by omega)
  simp only [Nat.reduceAdd, Nat.reduceMul] at e0 e1 e2 e3 e4
  rw [e4, e3, e2, e1, e0]
  show ((((0 ^^^ _) ^^^ _) ^^^ _) ^^^ _) ^^^ _ = _
  rw [Int32.zero_xor]
  rfl
theorem zP_eq {w w1 : Nat → Int32} (v : Int32) (k : Nat) : ∀ j, (∀ i, i < j → w (8 * k + i) = w1 (8 * k + i)) → zP w v k j = zP w1 v k j
  | 0, _ => rfl
  | j + 1, h => by
    show (if _ then zP w v k j else zP w v k j ^^^ w (8 * k + j)) = (if _ then zP w1 v k j else zP w1 v k j ^^^ w1 (8 * k + j))
    rw [zP_eq v k j (fun i hi => h i (by omega)), h j (by omega)]
theorem zpart_eq {w w1 : Nat → Int32} (mask v : Int32) (k : Nat) (hk : k < 5) (h : ∀ i, i < 41 → w i = w1 i) : zpart w mask v k = zpart w1 mask v k := by
  unfold zpart
  rw [zP_eq v k 8 (fun i hi => h _ (by omega))]
theorem zhf_eq {w w1 : Nat → Int32} (mask a1 a2 a3 a4 a5 : Int32) (h : ∀ i, i < 41 → w i = w1 i) : zhf w mask a1 a2 a3 a4 a5 = zhf w1 mask a1 a2 a3 a4 a5 := by
  unfold zhf
  rw [zpart_eq mask a1 0 (by omega) h, zpart_eq mask a2 1 (by omega) h, zpart_eq mask a3 2 (by omega) h, zpart_eq mask a4 3 (by omega) h, zpart_eq mask a5 4 (by omega) h]
