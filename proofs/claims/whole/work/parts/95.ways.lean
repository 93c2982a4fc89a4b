-- the pure side: isBothWays
def zW1 (w : Nat → Int32) (mask : Int32) (i : Nat) : Int32 := if zmb mask (i / 8) then w i else 0
theorem q8_part {u : RS} {x : Int32} {Q : Int32 → RS → Prop} (i : Nat) (e : x = nI i) (hi : i < 40) (h : Q (zW1 (zwin (u.1 3 0) (u.1 3 1) (u.1 3 2)) (u.1 3 3) i) u) : wp_X8_part u x Q := by
  subst e
  unfold wp_X8_part wp_X8_part_26
  rw [(zdec8 i hi).1]
  unfold zW1 zmb at h
  refine ⟨fun c => ?_, fun c => q8_windowAt i rfl (by omega) ?_⟩
  · simp only [c, decide_false] at h; exact h
  · simp only [c, decide_true] at h; exact h
theorem zpowb : ∀ j : Nat, j < 8 → ∀ i : Nat, i < 8 → (((nI (2 ^ j) <<< (nI i &&& 31)) &&& 128 = 0) ↔ i ≠ 7 - j) := by decide +kernel
theorem zP_pow (w : Nat → Int32) (k j : Nat) (hj : j < 8) : ∀ i, i ≤ 8 → zP w (nI (2 ^ j)) k i = if 7 - j < i then w (8 * k + (7 - j)) else 0
  | 0, _ => by rw [if_neg (by omega)]; rfl
  | i + 1, hi => by
    show (if (nI (2 ^ j) <<< (nI i &&& 31)) &&& 128 = 0 then zP w (nI (2 ^ j)) k i else zP w (nI (2 ^ j)) k i ^^^ w (8 * k + i)) = _
    rw [zP_pow w k j hj i (by omega)]
    by_cases c : i = 7 - j
    · rw [if_neg (fun z => (zpowb j hj i (by omega)).mp z c), if_neg (by omega), if_pos (by omega), Int32.zero_xor, c]
    · rw [if_pos ((zpowb j hj i (by omega)).mpr c)]
      by_cases d : 7 - j < i
      · rw [if_pos d, if_pos (by omega)]
      · rw [if_neg d, if_neg (by omega)]
theorem zpart_pow (w : Nat → Int32) (mask : Int32) (k j : Nat) (hj : j < 8) : zpart w mask (nI (2 ^ j)) k = zW1 w mask (8 * k + (7 - j)) := by
  unfold zpart zW1
  rw [zP_pow w k j hj 8 (by omega), if_pos (show 7 - j < 8 by omega), show (8 * k + (7 - j)) / 8 = k by omega]
theorem zpow9 : ∀ j : Nat, j < 9 → ((256 ≤ nI (2 ^ j)) ↔ j = 8) := by decide +kernel
theorem zpow1 : ∀ j : Nat, j < 8 → nI (2 ^ j) <<< ((1 : Int32) &&& 31) = nI (2 ^ (j + 1)) := by decide +kernel
def zE (w : Nat → Int32) (mask : Int32) (i : Nat) : Prop := zW1 w mask i = zW1 w mask (8 + i) ∧ zW1 w mask (16 + i) = zW1 w mask (24 + i)
theorem zW1_eq {w w1 : Nat → Int32} (mask : Int32) (i : Nat) (h : w i = w1 i) : zW1 w mask i = zW1 w1 mask i := by
  unfold zW1
  rw [h]
theorem q2_both {u : RS} {Q : Int32 → RS → Prop} (h1 : (∀ i, i < 8 → zE (u.1 1) (u.1 0 0) i) → Q 1 u) (h0 : (∃ i, i < 8 ∧ ¬ zE (u.1 1) (u.1 0 0) i) → Q 0 u) : wp_X2_hashesBothWaysAlike u Q := by
  unfold wp_X2_hashesBothWaysAlike
  refine zl2 (wp_X2_hashesBothWaysAlike_2 Q) 8 (fun j v y => v = u ∧ y = nI (2 ^ j) ∧ ∀ a, a < j → zE (u.1 1) (u.1 0 0) (7 - a)) ?_ 0 (Nat.zero_le _) u 1 ⟨rfl, rfl, fun a ha => absurd ha (by omega)⟩
  rintro j C v y hj ⟨rfl, rfl, hE⟩ hC
  unfold wp_X2_hashesBothWaysAlike_2 wp_X2_hashesBothWaysAlike_39
  refine ⟨fun c => ?_, fun c => ?_⟩
  · have hj8 := (zpow9 j (by omega)).mp c
    subst hj8
    refine h1 (fun i hi => ?_)
    have := hE (7 - i) (by omega)
    rw [show 7 - (7 - i) = i by omega] at this
    exact this
  · have hlt : j < 8 := by
      rcases Nat.lt_or_ge j 8 with q | q
      · exact q
      · exact absurd ((zpow9 j (by omega)).mpr (by omega)) c
    have p0 := zpart_pow (v.1 1) (v.1 0 0) 0 j hlt
    have p1 := zpart_pow (v.1 1) (v.1 0 0) 1 j hlt
    have p2 := zpart_pow (v.1 1) (v.1 0 0) 2 j hlt
    have p3 := zpart_pow (v.1 1) (v.1 0 0) 3 j hlt
    rw [show 8 * 0 + (7 - j) = 7 - j by omega] at p0
    rw [show 8 * 1 + (7 - j) = 8 + (7 - j) by omega] at p1
    rw [show 8 * 2 + (7 - j) = 16 + (7 - j) by omega] at p2
    rw [show 8 * 3 + (7 - j) = 24 + (7 - j) by omega] at p3
    refine q2_part 0 rfl (by omega) (q2_part 1 rfl (by omega) ?_)
    rw [p0, p1]
    refine ⟨fun z => h0 ⟨7 - j, by omega, fun y => z y.1⟩, fun z => q2_part 2 rfl (by omega) (q2_part 3 rfl (by omega) ?_)⟩
    rw [p2, p3]
    refine ⟨fun y x ex => hC _ _ hlt ⟨rfl, by rw [ex, zpow1 j hlt], fun a ha => ?_⟩, fun y => h0 ⟨7 - j, by omega, fun q => y q.2⟩⟩
    by_cases e : a = j
    · rw [e]; exact ⟨z, y⟩
    · exact hE a (by omega)
theorem q8_both {u : RS} {Q : Int32 → RS → Prop} (h : ∀ x : Int32, (x = 1 ∧ (∀ i, i < 8 → zE (zwin (u.1 3 0) (u.1 3 1) (u.1 3 2)) (u.1 3 3) i)) ∨ (x = 0 ∧ ∃ i, i < 8 ∧ ¬ zE (zwin (u.1 3 0) (u.1 3 1) (u.1 3 2)) (u.1 3 3) i) → Q x u) : ∃ n, zit3 (wp_X8_isBothWays_9 Q) n u 1 0 := by
  refine zl3 (wp_X8_isBothWays_9 Q) 8 (fun j v y1 y2 => v = u ∧ y2 = nI j ∧ ((y1 = 1 ∧ (∀ i, i < j → zE (zwin (u.1 3 0) (u.1 3 1) (u.1 3 2)) (u.1 3 3) i)) ∨ (y1 = 0 ∧ ∃ i, i < j ∧ ¬ zE (zwin (u.1 3 0) (u.1 3 1) (u.1 3 2)) (u.1 3 3) i))) ?_ 0 (Nat.zero_le _) u _ _ ⟨rfl, rfl, Or.inl ⟨rfl, fun i hi => absurd hi (by omega)⟩⟩
  rintro j C v y1 y2 hj ⟨rfl, rfl, hp⟩ hC
  unfold wp_X8_isBothWays_9 wp_X8_isBothWays_58 wp_X8_isBothWays_59
  refine ⟨fun c => ?_, fun c => ⟨fun z x ex => ?_, fun z => ?_⟩⟩
  · have hj := nI_stop (N := 8) (by decide) hj c
    subst hj
    refine ⟨?_, h _ hp⟩
    rcases hp with ⟨a, -⟩ | ⟨a, -⟩
    · rw [a]; exact Or.inr rfl
    · rw [a]; exact Or.inl rfl
  · have hlt := nI_go (N := 8) (by decide) hj c
    rcases hp with ⟨a, -⟩ | ⟨a, i, i1, i2⟩
    · rw [a] at z; exact absurd z (by decide)
    · exact hC _ _ _ hlt ⟨rfl, by rw [ex, nI_1], Or.inr ⟨rfl, i, by omega, i2⟩⟩
  · have hlt := nI_go (N := 8) (by decide) hj c
    rcases hp with ⟨a, b⟩ | ⟨a, -⟩
    · rw [nI_ladd, nI_ladd, nI_ladd]
      have no : ¬ zE (zwin (v.1 3 0) (v.1 3 1) (v.1 3 2)) (v.1 3 3) j → ∀ x : Int32, x = nI j + 1 → C v 0 x := fun y x ex => hC _ _ _ hlt ⟨rfl, by rw [ex, nI_1], Or.inr ⟨rfl, j, by omega, y⟩⟩
      refine q8_part j rfl (by omega) (q8_part (8 + j) rfl (by omega) ⟨fun y => no (fun q => y q.1), fun y => q8_part (16 + j) rfl (by omega) (q8_part (24 + j) rfl (by omega) ⟨fun y2 => no (fun q => y2 q.2), fun y2 x ex => hC _ _ _ hlt ⟨rfl, by rw [ex, nI_1], Or.inl ⟨rfl, fun i hi => ?_⟩⟩⟩)⟩)
      by_cases e : i = j
      · rw [e]; exact ⟨y, y2⟩
      · exact b i (by omega)
    · exact absurd a z
theorem p_isBothWays {B : Nat} : pX_isBothWays (Rel B) (Rel (B + 30000)) := by
  intro u r h
  replace h := h.up 30000
  have h0 : Rel (B + 30000) u (rN r 0 0) := h
  obtain ⟨n, nr, m, hX⟩ := h.2.2.1.1.x
  have hK := hX.2.1
  have eE : ∀ i, i < 8 → (zE ((u.2.2.1 1).1 1) ((u.2.2.1 1).1 0 0) i ↔ zE (zwin (r.1 3 0) (r.1 3 1) (r.1 3 2)) (r.1 3 3) i) := by
    intro i hi
    unfold zE
    rw [hK.2.2.1, zW1_eq _ i (hK.1 i (by omega)), zW1_eq _ (8 + i) (hK.1 _ (by omega)), zW1_eq _ (16 + i) (hK.1 _ (by omega)), zW1_eq _ (24 + i) (hK.1 _ (by omega))]
  unfold wp_X7_isBothWays
  refine q2_both (fun hE u1 e1 => ⟨Or.inr rfl, ?_⟩) (fun hE u1 e1 => ⟨Or.inl rfl, ?_⟩)
  · rw [tN_id] at e1
    subst e1
    unfold wp_X8_isBothWays
    intro r1 f1
    subst f1
    refine q8_both (fun x hx => ⟨?_, h0⟩)
    rcases hx with ⟨a, -⟩ | ⟨-, i, i1, i2⟩
    · exact a.symm
    · exact absurd ((eE i i1).mp (hE i i1)) i2
  · rw [tN_id] at e1
    subst e1
    unfold wp_X8_isBothWays
    intro r1 f1
    subst f1
    refine q8_both (fun x hx => ⟨?_, h0⟩)
    rcases hx with ⟨-, a⟩ | ⟨a, -⟩
    · obtain ⟨i, i1, i2⟩ := hE
      exact absurd ((eE i i1).mpr (a i i1)) i2
    · exact a.symm
