-- the pure side: status, image, back, undo
theorem lc_gt (x y : Int64) : 0 < lg_cmp x y ↔ y < x := by
  unfold lg_cmp
  by_cases h : y < x
  · rw [if_pos h]; exact ⟨fun _ => h, fun _ => by decide⟩
  · rw [if_neg h]
    by_cases e : x = y
    · rw [if_pos e]; exact ⟨fun z => absurd z (by decide), fun z => absurd z h⟩
    · rw [if_neg e]; exact ⟨fun z => absurd z (by decide), fun z => absurd z h⟩
theorem lc_lt (x y : Int64) : lg_cmp x y < 0 ↔ x < y := by
  unfold lg_cmp
  by_cases h : y < x
  · rw [if_pos h]; exact ⟨fun z => absurd z (by decide), fun z => absurd (Int64.lt_trans z h) Int64.lt_irrefl⟩
  · rw [if_neg h]
    by_cases e : x = y
    · rw [if_pos e]; exact ⟨fun z => absurd z (by decide), fun z => by rw [e] at z; exact absurd z Int64.lt_irrefl⟩
    · rw [if_neg e]; exact ⟨fun _ => Int64.lt_of_le_of_ne (Int64.not_lt.mp h) e, fun _ => by decide⟩
theorem q8_in {y0 y2 y4 : Int64} {Q : Int32 → Prop} (h1 : y2.toInt ≤ y0.toInt → y0.toInt ≤ y4.toInt → Q 1) (h2 : ¬ (y2.toInt ≤ y0.toInt ∧ y0.toInt ≤ y4.toInt) → Q 0) : wp_X8_in y0 y2 y4 Q := by
  unfold wp_X8_in wp_X8_in_17 wp_X8_in_18
  refine ⟨fun c => ⟨Or.inl rfl, h2 ?_⟩, fun c => ⟨fun d => ⟨Or.inl rfl, h2 ?_⟩, fun d => ⟨Or.inr rfl, h1 ?_ ?_⟩⟩⟩
  · rw [lc_lt, Int64.lt_iff_toInt_lt] at c; omega
  · rw [lc_gt, Int64.lt_iff_toInt_lt] at d; omega
  · rw [lc_lt, Int64.lt_iff_toInt_lt] at c; omega
  · rw [lc_gt, Int64.lt_iff_toInt_lt] at d; omega
theorem Rel_0 {B : Nat} {u : TS} {r : RS} (h : Rel B u r) : Rel B u (rN r 0 0) := h
theorem Rel.zero {B : Nat} {u : TS} {r : RS} (h : Rel B u r) : Rel0 B u r := h.2
theorem p_status {B : Nat} : pX_status (Rel B) (Rel (B + 30000)) := by
  intro u r h
  replace h := h.up 30000
  unfold wp_X7_status wp_X8_status
  intro r1 e1
  rw [e1]
  exact ⟨h.1, Rel_0 h⟩
theorem i64_toInt (x : Int32) : x.toInt64.toInt = x.toInt := Int32.toInt_toInt64 x
theorem i32_of {x : Int32} {n : Nat} (h0 : 0 ≤ x.toInt) (h1 : x.toInt ≤ n) (hn : n < 2147483648) : ∃ k, k ≤ n ∧ x = nI k := by
  refine ⟨x.toInt.toNat, by omega, ?_⟩
  apply Int32.toInt_inj.mp
  rw [nI_toInt (by omega)]
  omega
theorem q8_in01 {x : Int32} {Q : Int32 → Prop} (h1 : ∀ k : Nat, k < 2 → x = nI k → Q 1) (h2 : (x < 0 ∨ ¬ x < 2) → Q 0) : wp_X8_in x.toInt64 0 1 Q := by
  refine q8_in (fun a b => ?_) (fun a => h2 ?_)
  · rw [i64_toInt] at a b
    obtain ⟨k, hk, e⟩ := i32_of (n := 1) a b (by decide)
    exact h1 k (by omega) e
  · rw [i64_toInt] at a
    have z0 : (0 : Int32).toInt = 0 := by decide
    have z2 : (2 : Int32).toInt = 2 := by decide
    have w0 : (0 : Int64).toInt = 0 := by decide
    have w1 : (1 : Int64).toInt = 1 := by decide
    rw [w0, w1] at a
    rw [Int32.lt_iff_toInt_lt, Int32.lt_iff_toInt_lt, z0, z2]
    omega
theorem no2 {x : Int32} {k : Nat} (hk : k < 2) (e : x = nI k) : ¬ (x < 0 ∨ ¬ x < 2) := by
  rintro (h | h)
  · rw [e] at h; exact nI_pos (by omega) h
  · rw [e] at h; exact h (show nI k < nI 2 from nI_lt hk (by decide))
theorem yes2 {x : Int32} (h1 : ¬ x < 0) (h2 : x < 2) : ∃ k : Nat, k < 2 ∧ x = nI k := by
  obtain ⟨k, k31, e⟩ := nI_of h1
  refine ⟨k, ?_, e⟩
  rw [e] at h2
  rcases Nat.lt_or_ge k 2 with q | q
  · exact q
  · exact absurd (show nI k < nI 2 from h2) (nI_nlt q (by omega))
theorem Sim.time {cs : Nat → RS} {R : Nat → Int32} {S : Nat → Int64} (h : Sim cs R S) : (cs 0).1 6 0 = R 6 := by
  obtain ⟨n, nr, m, -, -, -, -, -, -, -, -, -, hO, -⟩ := h
  exact hO.2.1
theorem SimB.time {B : Nat} {cs : Nat → RS} {R : Nat → Int32} {S : Nat → Int64} (h : SimB B cs R S) : (cs 0).1 6 0 = R 6 := h.1.time
theorem nar_1 : vp_nar .boolean 1 = 1 := by decide
theorem p_image {B : Nat} : pX_image (Rel B) (Rel (B + 30000)) := by
  intro u r x h
  replace h := h.up 30000
  unfold wp_X7_image
  have h0 : Rel0 (B + 30000) u (rN r 0 0) := h.2
  refine ⟨fun hc => k_refuse 1 (-1) (by decide) (by decide) h0 (fun u1 hu => ?_), fun c1 c2 => ?_⟩
  · unfold wp_X8_image
    intro r1 e1
    refine q8_in01 (fun k hk e => absurd hc (no2 hk e)) (fun _ => ⟨fun z => absurd rfl z, fun _ => ?_⟩)
    rw [e1]
    exact hu _ (fun r2 hr => ⟨rfl, hr⟩)
  · obtain ⟨k, hk, rfl⟩ := yes2 c1 c2
    rw [zn_nI (by omega)]
    obtain ⟨a1, a2, a3, a4, a5, a6⟩ := h0
    refine ⟨in_nI hk (by decide), fun u1 e1 => ?_⟩
    have d1 : u1.2 = u.2 := by rw [e1]; rfl
    have d2 : u1.1 = rN u.1 4 0 := by rw [e1]; rfl
    rw [d1]
    refine q7_copied a2 (fun q hq => ?_) (fun q hq u2 e2 => ?_)
    · rcases a5 k hk with ⟨b, -⟩ | ⟨q', b, -, b3⟩
      · rw [b] at hq; cases hq
      · rw [b] at hq; cases hq; exact b3.sN
    · unfold wp_X8_image
      intro r1 f1
      subst f1
      refine q8_in01 (fun _ _ _ => ⟨fun _ => q8_lay_images k rfl hk ⟨in_nI hk (by decide), fun r2 f2 => ?_⟩, fun z => absurd z (by decide)⟩) (fun hc => absurd hc (no2 hk rfl))
      rw [zn_nI (by omega), nar_1] at f2
      have g1 : u2.1 = rN u.1 4 0 := by rw [e2]; exact d2
      have g2 : u2.2.1 = u.2.1 := by rw [e2]; show u1.2.1 = _; rw [d1]
      have g3 : u2.2.2.1 = u.2.2.1 := by rw [e2]; show u1.2.2.1 = _; rw [d1]
      have g4 : u2.2.2.2.1 = u.2.2.2.1 := by rw [e2]; show u1.2.2.2.1 = _; rw [d1]
      have g5 : u2.2.2.2.2 = va_up u.2.2.2.2 k (some q) := by rw [e2]; rfl
      have r3 : ∀ j, j ≠ 9 → j ≠ 11 → j ≠ 0 → r2.1 j = r.1 j := by
        intro j j9 j11 j0
        rw [f2, rI_n _ _ j11]
        unfold zlay_images
        rw [rL_1, rI_n _ _ j9, rN_n _ _ j0]
      have l3 : ∀ j, j ≠ 10 → r2.2 j = r.2 j := by
        intro j j10
        rw [f2, rI_2]
        unfold zlay_images
        rw [rL_n _ _ j10, rI_2, rN_2]
      unfold wp_X8_tell
      intro r4 f4
      have s3 : ∀ j, j ≠ 9 → j ≠ 11 → j ≠ 0 → j ≠ 1 → r4.1 j = r.1 j := by
        intro j j9 j11 j0 j1
        rw [f4, rN_n _ _ j1]; exact r3 j j9 j11 j0
      have sl : ∀ j, j ≠ 10 → r4.2 j = r.2 j := by
        intro j j10
        rw [f4, rN_2]; exact l3 j j10
      have s11 : r4.1 11 = upd (r.1 11) k 1 := by
        rw [f4, rN_n _ _ (by decide), f2, rI_s]
        unfold zlay_images
        rw [rL_1, rI_n _ _ (by decide), rN_n _ _ (by decide)]
      have s9 : r4.1 9 = zcpy (r.1 9) (r.1 3) (1065 * k) 1065 := by
        rw [f4, rN_n _ _ (by decide), f2, rI_n _ _ (by decide)]
        unfold zlay_images
        rw [rL_1, rI_s, rN_n _ _ (by decide), rN_n _ _ (by decide)]
      have s10 : r4.2 10 = zcpy (r.2 10) (r.2 4) (7 * k) 7 := by
        rw [f4, rN_2, f2, rI_2]
        unfold zlay_images
        rw [rL_s, rN_2]
      refine ⟨by rw [g3, r3 3 (by decide) (by decide) (by decide)]; exact a2.time, ?_, ?_, ?_, ?_, ?_, ?_, ?_⟩
      · rw [g1, f4, rN_s, rN_s]
      · intro j hj
        rw [g1, rN_n _ _ (by decide), s3 2 (by decide) (by decide) (by decide) (by decide)]; exact a1 j hj
      · rw [g3, s3 3 (by decide) (by decide) (by decide) (by decide), sl 4 (by decide)]; exact a2
      · rw [g2, g4, s3 8 (by decide) (by decide) (by decide) (by decide), s3 7 (by decide) (by decide) (by decide) (by decide), s3 5 (by decide) (by decide) (by decide) (by decide), sl 6 (by decide)]; exact a3
      · rw [g4]; exact a4
      · intro j hj
        rw [g5, s11, s9, s10]
        by_cases e : j = k
        · subst e
          refine Or.inr ⟨q, va_up_self _ _ _, pk_us, hq.row (fun i hi => zcpy_in _ _ hi) (fun i hi => zcpy_in _ _ hi)⟩
        · rw [va_up_ne _ _ e, pk_un e]
          rcases a5 j hj with b | ⟨q', b1, b2, b3⟩
          · exact Or.inl b
          · refine Or.inr ⟨q', b1, b2, b3.row (fun i hi => zcpy_out _ _ (by omega)) (fun i hi => zcpy_out _ _ (by omega))⟩
      · rw [g5, va_up_ne _ _ (by omega)]; exact a6
