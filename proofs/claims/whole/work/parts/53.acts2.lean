-- the pure side: back, undo
theorem zcpy_in0 {α : Type} (f g : Nat → α) {n i : Nat} (h : i < n) : zcpy f g 0 n i = g i := by
  have := zcpy_in f g (a := 0) h
  rw [Nat.zero_add] at this
  exact this
theorem p_back {B : Nat} : pX_back (Rel B) (Rel (B + 30000)) := by
  intro u r x h
  replace h := h.up 30000
  unfold wp_X7_back
  have h0 : Rel0 (B + 30000) u (rN r 0 0) := h.2
  refine ⟨fun hc => k_refuse 1 (-1) (by decide) (by decide) h0 (fun u1 hu => ?_), fun c1 c2 => ?_⟩
  · unfold wp_X8_back
    intro r1 e1
    refine q8_in01 (fun k hk e => absurd hc (no2 hk e)) (fun _ => ⟨fun z => absurd rfl z, fun _ => ?_⟩)
    rw [e1]
    exact hu _ (fun r2 hr => ⟨rfl, hr⟩)
  · obtain ⟨k, hk, rfl⟩ := yes2 c1 c2
    rw [zn_nI (by omega)]
    refine ⟨in_nI hk (by decide), fun hn => k_refuse 4 (-4) (by decide) (by decide) h0 (fun u1 hu => ?_), fun q hq u1 e1 => ?_⟩
    · unfold wp_X8_back
      intro r1 e1
      refine q8_in01 (fun _ _ _ => ⟨fun _ => ⟨in_nI hk (by decide), ?_⟩, fun z => absurd z (by decide)⟩) (fun hc => absurd hc (no2 hk rfl))
      have z11 : r1.1 11 k = 0 := by
        rcases h0.2.2.2.2.1 k hk with ⟨-, b⟩ | ⟨q', b, -⟩
        · rw [e1]; exact b
        · rw [hn] at b; cases b
      rw [zn_nI (by omega)]
      refine ⟨fun z => absurd z11 z, fun _ => ?_⟩
      rw [e1]
      exact hu _ (fun r2 hr => ⟨rfl, hr⟩)
    · obtain ⟨a1, a2, ⟨m, t, m1, t1, m2, m3, m4, m5⟩, a4, a5, a6⟩ := h0
      have d1 : u1.2 = u.2 := by rw [e1]; rfl
      have d2 : u1.1 = rN u.1 4 0 := by rw [e1]; rfl
      obtain ⟨b2, b3⟩ : r.1 11 k = 1 ∧ SimB (B + 30000) q.2 (fun i => r.1 9 (1065 * k + i)) (fun i => r.2 10 (7 * k + i)) := by
        rcases a5 k hk with ⟨b, -⟩ | ⟨q', b1, b2, b3⟩
        · rw [hq] at b; cases b
        · rw [hq] at b1; cases b1; exact ⟨b2, b3⟩
      rw [d1]
      refine q5_become b3.queues (fun v hv u2 e2 u3 e3 => ?_)
      have hs := b3.become a2.sN hv
      unfold wp_X8_back
      intro r1 f1
      subst f1
      refine q8_in01 (fun _ _ _ => ⟨fun _ => ⟨in_nI hk (by decide), ?_⟩, fun z => absurd z (by decide)⟩) (fun hc => absurd hc (no2 hk rfl))
      rw [zn_nI (by omega)]
      refine ⟨fun _ => q8_bring_images k rfl hk (fun r2 f2 => ?_), fun z => ?_⟩
      · unfold wp_X8_tell
        intro r4 f4
        have g1 : u3.1 = rN u.1 4 0 := by rw [e3, e2]; exact d2
        have g2 : u3.2.1 = rN u.2.1 0 0 := by
          rw [e3, e2]
          show rN u1.2.1 0 0 = _
          rw [d1]
        have g3 : u3.2.2.1 = v := by rw [e3, e2]; rfl
        have g4 : u3.2.2.2 = u.2.2.2 := by rw [e3, e2]; show u1.2.2.2 = _; rw [d1]
        have s3 : ∀ j, j ≠ 3 → j ≠ 8 → j ≠ 0 → j ≠ 1 → r4.1 j = r.1 j := by
          intro j j3 j8 j0 j1
          rw [f4, rN_n _ _ j1, f2, rN_n _ _ j8]
          unfold zbring_images
          rw [rL_1, rI_n _ _ j3, rN_n _ _ j0]
        have sl : ∀ j, j ≠ 4 → r4.2 j = r.2 j := by
          intro j j4
          rw [f4, rN_2, f2, rN_2]
          unfold zbring_images
          rw [rL_n _ _ j4, rI_2, rN_2]
        have w3 : r4.1 3 = zcpy (r.1 3) (fun i => r.1 9 (1065 * k + i)) 0 1065 := by
          rw [f4, rN_n _ _ (by decide), f2, rN_n _ _ (by decide)]
          unfold zbring_images
          rw [rL_1, rI_s, rN_n _ _ (by decide), rN_n _ _ (by decide)]
        have w4 : r4.2 4 = zcpy (r.2 4) (fun i => r.2 10 (7 * k + i)) 0 7 := by
          rw [f4, rN_2, f2, rN_2]
          unfold zbring_images
          rw [rL_s, rN_2]
        have hsim : SimB (B + 30000) v (r4.1 3) (r4.2 4) := by
          rw [w3, w4]
          exact hs.row (fun i hi => zcpy_in0 _ _ hi) (fun i hi => zcpy_in0 _ _ hi)
        have e23 : r2.1 3 = r4.1 3 := by rw [f4, rN_n _ _ (by decide)]
        refine ⟨by rw [g3, e23]; exact hsim.time, ?_, ?_, ?_, ?_, ?_, ?_, ?_⟩
        · rw [g1, f4, rN_s, rN_s]
        · intro j hj
          rw [g1, rN_n _ _ (by decide), s3 2 (by decide) (by decide) (by decide) (by decide)]; exact a1 j hj
        · rw [g3]; exact hsim
        · refine ⟨0, t, by omega, t1, by rw [g2, rN_s]; rfl, ?_, by rw [g2, rN_n _ _ (by decide)]; exact m4, fun a ha => absurd ha (Nat.not_lt_zero a)⟩
          rw [f4, rN_n _ _ (by decide), f2, rN_s]; rfl
        · rw [g4]; exact a4
        · intro j hj
          rw [g4, s3 11 (by decide) (by decide) (by decide) (by decide), s3 9 (by decide) (by decide) (by decide) (by decide), sl 10 (by decide)]
          exact a5 j hj
        · rw [g4]; exact a6
      · have z : r.1 11 k = 0 := z
        rw [b2] at z
        exact absurd z (by decide)
theorem zring7 : ∀ t : Nat, t < 8 → nI t + 8 - 1 - (nI t + 8 - 1) / 8 * 8 = nI ((t + 7) % 8) := by decide +kernel
theorem p_undo {B : Nat} : pX_undo (Rel B) (Rel (B + 30000)) := by
  intro u r h
  replace h := h.up 30000
  unfold wp_X7_undo
  have h0 : Rel0 (B + 30000) u (rN r 0 0) := h.2
  have hh := h0
  obtain ⟨a1, a2, ⟨m, t, m1, t1, m2, m3, m4, m5⟩, a4, a5, a6⟩ := hh
  refine ⟨fun hc u1 e1 => ?_, fun hc => k_refuse 4 (-4) (by decide) (by decide) h0 (fun u1 hu => ?_)⟩
  · have mpos : 0 < m := by
      rcases Nat.eq_zero_or_pos m with z | z
      · rw [z] at m2; exact absurd m2 hc
      · exact z
    have d1 : u1.2 = u.2 := by rw [e1]; rfl
    have d2 : u1.1 = rN u.1 4 0 := by rw [e1]; rfl
    rw [d1]
    unfold wp_X1_takeBack kAct kTake
    rw [m4, zn_nI (by omega), zring7 t t1, m2, nI_subl (by omega)]
    obtain ⟨c1, q, c2, c3⟩ := m5 0 mpos
    rw [show (t + 8 - 0) % 8 = t by omega] at c1 c2
    rw [Nat.sub_zero] at c1
    rw [Nat.sub_zero] at c3
    refine ⟨in_nI t1 (by decide), (fun z => by rw [c2] at z; cases z), fun q' hq' => ?_⟩
    rw [c2] at hq'
    cases hq'
    refine q5_become c3.queues (fun v hv u2 e2 => ?_)
    have hs := c3.become a2.sN hv
    unfold wp_X8_undo
    intro r1 f1
    subst f1
    have n8 : (rN r 0 0).1 8 0 = nI m := m3
    rw [n8, nI_subl (by omega)]
    refine ⟨fun _ r2 f2 => ?_, fun z => absurd z (nI_ne0 mpos (by omega))⟩
    have n82 : r2.1 8 0 = nI (m - 1) := by rw [f2, rN_s]
    refine q8_bring_undos (m - 1) n82 (by omega) ?_
    have n83 : (zbring_undos r2 (m - 1)).1 8 0 = nI (m - 1) := by
      unfold zbring_undos
      rw [rL_1, rI_n _ _ (by decide)]; exact n82
    rw [n83, zn_nI (by omega)]
    refine ⟨in_nI (by omega) (by decide), ?_⟩
    unfold wp_X8_tell
    intro r4 f4
    have p3 : ∀ j, j ≠ 8 → j ≠ 0 → r2.1 j = r.1 j := by
      intro j j8 j0
      rw [f2, rN_n _ _ j8, rN_n _ _ j0]
    have p4 : r2.2 = r.2 := by rw [f2, rN_2, rN_2]
    have s3 : ∀ j, j ≠ 3 → j ≠ 8 → j ≠ 0 → j ≠ 1 → r4.1 j = r.1 j := by
      intro j j3 j8 j0 j1
      rw [f4, rN_n _ _ j1]
      unfold zbring_undos
      rw [rL_1, rI_n _ _ j3]; exact p3 j j8 j0
    have sl : ∀ j, j ≠ 4 → r4.2 j = r.2 j := by
      intro j j4
      rw [f4, rN_2]
      unfold zbring_undos
      rw [rL_n _ _ j4, rI_2, p4]
    have w3 : r4.1 3 = zcpy (r.1 3) (fun i => r.1 5 (1065 * (m - 1) + i)) 0 1065 := by
      rw [f4, rN_n _ _ (by decide)]
      unfold zbring_undos
      rw [rL_1, rI_s, p3 3 (by decide) (by decide), p3 5 (by decide) (by decide)]
    have w4 : r4.2 4 = zcpy (r.2 4) (fun i => r.2 6 (7 * (m - 1) + i)) 0 7 := by
      rw [f4, rN_2]
      unfold zbring_undos
      rw [rL_s, p4]
    have hsim : SimB (B + 30000) v (r4.1 3) (r4.2 4) := by
      rw [w3, w4]
      exact hs.row (fun i hi => zcpy_in0 _ _ hi) (fun i hi => zcpy_in0 _ _ hi)
    have g1 : u2.1 = rN u.1 4 0 := by rw [e2]; exact d2
    have g3 : u2.2.2.1 = v := by rw [e2]; rfl
    have g4 : u2.2.2.2 = u.2.2.2 := by rw [e2]; show u1.2.2.2 = _; rw [d1]
    have g2 : u2.2.1 = rN (rN u.2.1 3 (nI ((t + 7) % 8))) 0 (nI (m - 1)) := by rw [e2]; rfl
    refine ⟨?_, ?_, ?_, ?_, ?_, ?_, ?_, ?_⟩
    · have : (zbring_undos r2 (m - 1)).1 7 = r.1 7 := by
        unfold zbring_undos
        rw [rL_1, rI_n _ _ (by decide)]; exact p3 7 (by decide) (by decide)
      rw [this]; exact c1
    · rw [g1, f4, rN_s, rN_s]
    · intro j hj
      rw [g1, rN_n _ _ (by decide), s3 2 (by decide) (by decide) (by decide) (by decide)]; exact a1 j hj
    · rw [g3]; exact hsim
    · refine ⟨m - 1, (t + 7) % 8, by omega, Nat.mod_lt _ (by omega), by rw [g2, rN_s], ?_, by rw [g2, rN_n _ _ (by decide), rN_s], fun a ha => ?_⟩
      · rw [f4, rN_n _ _ (by decide)]; exact n83
      · obtain ⟨x1, q1, x2, x3⟩ := m5 (a + 1) (by omega)
        rw [show (t + 8 - (a + 1)) % 8 = ((t + 7) % 8 + 8 - a) % 8 by omega] at x1 x2
        rw [show m - 1 - (a + 1) = m - 1 - 1 - a by omega] at x1 x3
        refine ⟨?_, q1, by rw [g4]; exact x2, ?_⟩
        · rw [g2, rN_n _ _ (by decide), rN_n _ _ (by decide), s3 7 (by decide) (by decide) (by decide) (by decide)]; exact x1
        · rw [s3 5 (by decide) (by decide) (by decide) (by decide), sl 6 (by decide)]; exact x3
    · rw [g4]; exact a4
    · intro j hj
      rw [g4, s3 11 (by decide) (by decide) (by decide) (by decide), s3 9 (by decide) (by decide) (by decide) (by decide), sl 10 (by decide)]
      exact a5 j hj
    · rw [g4]; exact a6
  · unfold wp_X8_undo
    intro r1 f1
    subst f1
    have m0 : m = 0 := by
      rw [m2] at hc
      exact (nI_eq (by omega) (by omega)).mp (show nI m = nI 0 from hc)
    have n8 : (rN r 0 0).1 8 0 = 0 := by
      have : (rN r 0 0).1 8 0 = nI m := m3
      rw [this, m0]; rfl
    refine ⟨fun z => absurd n8 z, fun _ => hu _ (fun r2 hr => ⟨rfl, hr⟩)⟩
