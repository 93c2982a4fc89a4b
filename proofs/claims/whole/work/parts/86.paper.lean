-- the pure side: questions on paper
theorem zlay3 (r : RS) : (zlay_ahead (rN r 0 0) 0).1 3 = r.1 3 ∧ (zlay_ahead (rN r 0 0) 0).2 4 = r.2 4 := by
  unfold zlay_ahead
  refine ⟨?_, ?_⟩
  · rw [rL_1, rI_n _ _ (by decide), rN_n _ _ (by decide)]
  · rw [rL_n _ _ (by decide), rI_2, rN_2]
theorem k_back {B : Nat} {u : TS} {r v : RS} {pd : Nat → Nat → Nat} {ps : Nat → RS} (h : Rel B u r) (h1 : ∀ k, k < 15 → k ≠ 3 → v.1 k = (zlay_ahead (rN r 0 0) 0).1 k) (h2 : ∀ k, k ≠ 4 → v.2 k = (zlay_ahead (rN r 0 0) 0).2 k) (hn : sN (ps 4)) : Rel B (tP u pd ps) (zbring_ahead v 0) := by
  have hb1 : ∀ k, k ≠ 3 → (zbring_ahead v 0).1 k = v.1 k := by
    intro k hk
    unfold zbring_ahead
    rw [rL_1, rI_n _ _ hk]
  have hb2 : ∀ k, k ≠ 4 → (zbring_ahead v 0).2 k = v.2 k := by
    intro k hk
    unfold zbring_ahead
    rw [rL_n _ _ hk, rI_2]
  have hl1 : ∀ k, k ≠ 12 → (zlay_ahead (rN r 0 0) 0).1 k = (rN r 0 0).1 k := by
    intro k hk
    unfold zlay_ahead
    rw [rL_1, rI_n _ _ hk]
  have hl2 : ∀ k, k ≠ 13 → (zlay_ahead (rN r 0 0) 0).2 k = r.2 k := by
    intro k hk
    unfold zlay_ahead
    rw [rL_n _ _ hk, rI_2, rN_2]
  have e1 : ∀ k, k < 15 → k ≠ 3 → k ≠ 12 → (zbring_ahead v 0).1 k = (rN r 0 0).1 k := fun k a b e => by rw [hb1 k b, h1 k a b, hl1 k e]
  have e2 : ∀ k, k ≠ 4 → k ≠ 13 → (zbring_ahead v 0).2 k = r.2 k := fun k a b => by rw [hb2 k a, h2 k a, hl2 k b]
  have e3 : ∀ i, i < 1065 → (zbring_ahead v 0).1 3 i = r.1 3 i := by
    intro i hi
    have a1 := zcpy_in (v.1 3) (fun i => v.1 12 (1065 * 0 + i)) (a := 0) hi
    have a2 := zcpy_in (r.1 12) (r.1 3) (a := 1065 * 0) hi
    rw [show 1065 * 0 + i = i by omega] at a2
    have a3 := h1 12 (by decide) (by decide)
    unfold zlay_ahead at a3
    rw [rL_1, rI_s, rN_n _ _ (by decide), rN_n _ _ (by decide)] at a3
    unfold zbring_ahead
    rw [rL_1, rI_s]
    rw [Nat.zero_add] at a1
    rw [a1, a3]
    exact a2
  have e4 : ∀ i, i < 7 → (zbring_ahead v 0).2 4 i = r.2 4 i := by
    intro i hi
    have a1 := zcpy_in (v.2 4) (fun i => v.2 13 (7 * 0 + i)) (a := 0) hi
    have a2 := zcpy_in (r.2 13) (r.2 4) (a := 7 * 0) hi
    rw [show 7 * 0 + i = i by omega] at a2
    have a3 := h2 13 (by decide)
    unfold zlay_ahead at a3
    rw [rL_s, rN_2] at a3
    unfold zbring_ahead
    rw [rL_s]
    rw [Nat.zero_add] at a1
    rw [a1, a3]
    exact a2
  refine ⟨?_, ?_⟩
  · show u.1.1 4 0 = _
    rw [e1 1 (by decide) (by decide) (by decide), rN_n _ _ (by decide)]
    exact h.1
  · have h0 : Rel0 B u (rN r 0 0) := h.2
    refine h0.now ⟨rfl, rfl, rfl, fun k hk => ?_, fun q hq => ?_⟩ (e1 2 (by decide) (by decide) (by decide)) (e1 5 (by decide) (by decide) (by decide)) (e1 7 (by decide) (by decide) (by decide)) (e1 8 (by decide) (by decide) (by decide)) (e1 9 (by decide) (by decide) (by decide)) (e1 11 (by decide) (by decide) (by decide)) (e2 6 (by decide) (by decide)) (e2 10 (by decide) (by decide)) ?_
    · show va_up u.2.2.2.2 2 _ k = _
      rw [vu_n _ _ (by omega)]
    · have hq' : va_up u.2.2.2.2 2 (some (pd, ps)) 2 = some q := hq
      rw [vu_s] at hq'
      cases hq'
      exact hn
    · exact h.2.2.1.row e3 e4
theorem q7_paper {B : Nat} {u : TS} {r : RS} {Q : (Nat → Nat → Nat) → (Nat → RS) → Prop} (h : Rel B u r) (hQ : ∀ pd ps, SimB B ps (r.1 3) (r.2 4) → Q pd ps) : wp_X7_paperOfNow u Q := by
  unfold wp_X7_paperOfNow
  exact q7_copied h.2.2.1 h.2.2.2.2.2.2 (fun q hq => hQ q.1 q.2 hq)
theorem SimX.s0 {n nr : Nat} {m : Nat → Nat} {cs : Nat → RS} {R : Nat → Int32} {S : Nat → Int64} (h : SimX n nr m cs R S) : (cs 4).2 1 0 = S 0 := by
  obtain ⟨_, _, _, _, _, _, _, _, g⟩ := h.2.2.2.2.2.2.2.1
  exact g 0 (by omega)
theorem nI_3 {x : Int32} {n : Nat} (h0 : ¬ x < 0) (h1 : ¬ nI n < x) (hn : n < 2147483648) : ∃ k, k ≤ n ∧ x = nI k := by
  rw [Int32.lt_iff_toInt_lt] at h0 h1
  have z0 : (0 : Int32).toInt = 0 := by decide
  rw [z0] at h0
  rw [nI_toInt (by omega)] at h1
  exact i32_of (by omega) (by omega) hn
theorem p_would {B : Nat} : pX_would (Rel B) (Rel (B + 30000)) := by
  intro u r x1 x2 h
  have bd0 : Bd B (r.1 3) (r.2 4) := h.2.2.1.2
  have hB := h
  replace h := h.up 30000
  have h0 : Rel (B + 30000) u (rN r 0 0) := h
  have hs : Sim u.2.2.1 (r.1 3) (r.2 4) := h.2.2.1.1
  have hsn := hs
  obtain ⟨_, _, _, hXn⟩ := hsn.x
  have hO := hXn.2.2.2.2.2.2.2.2.2.1
  obtain ⟨x, xle, ex⟩ := hO.2.2.2.1
  have ct : (u.2.2.1 0).1 6 0 = nI x := by rw [hO.2.1]; exact ex
  have rt : (rN r 0 0).1 3 6 = nI x := ex
  have out : (¬ ∃ k, 1 ≤ k ∧ k ≤ 100 ∧ x1 = nI k) → wp_X8_would r x1 x2 (fun y r1 => -1 = y ∧ Rel (B + 30000) u r1) := by
    intro hno
    unfold wp_X8_would wp_X8_would_43
    intro r1 f1
    subst f1
    exact q8_inr 1 100 (by decide) (by decide) (by decide) (fun k k1 k2 e => absurd ⟨k, k1, k2, e⟩ hno) (fun _ => ⟨fun _ => ⟨rfl, h0⟩, fun z => absurd rfl z⟩)
  have out2 : (¬ ∃ k, k ≤ 3 ∧ x2 = nI k) → wp_X8_would r x1 x2 (fun y r1 => -1 = y ∧ Rel (B + 30000) u r1) := by
    intro hno
    unfold wp_X8_would wp_X8_would_43
    intro r1 f1
    subst f1
    refine q8_inr 1 100 (by decide) (by decide) (by decide) (fun k k1 k2 e => ⟨fun z => absurd z (by decide), fun _ => ⟨fun _ => ⟨rfl, h0⟩, fun _ => ?_⟩⟩) (fun _ => ⟨fun _ => ⟨rfl, h0⟩, fun z => absurd rfl z⟩)
    exact q8_inr 0 3 (by decide) (by decide) (by decide) (fun k _ k2 e => absurd ⟨k, k2, e⟩ hno) (fun _ => ⟨fun z => absurd rfl z, fun _ => ⟨rfl, h0⟩⟩)
  unfold wp_X7_would wp_X7_would_34
  refine ⟨fun c => out ?_, fun c1 => ⟨fun c => out ?_, fun c2 => ⟨fun c => out2 ?_, fun c3 => ⟨fun c => out2 ?_, fun c4 => ?_⟩⟩⟩⟩
  · rintro ⟨k, k1, k2, rfl⟩
    exact absurd (show nI k < nI 1 from c) (nI_nlt k1 (by omega))
  · rintro ⟨k, k1, k2, rfl⟩
    exact absurd (show nI 100 < nI k from c) (nI_nlt k2 (by omega))
  · rintro ⟨k, k2, rfl⟩
    exact absurd c (nI_pos (by omega))
  · rintro ⟨k, k2, rfl⟩
    exact absurd (show nI 3 < nI k from c) (nI_nlt k2 (by omega))
  · obtain ⟨k, k1, k2, ek⟩ := nI_in100 c1 (by rw [Int32.le_iff_toInt_le]; rw [Int32.lt_iff_toInt_lt] at c2; omega)
    obtain ⟨w, w3, ew⟩ := nI_3 (n := 3) c3 c4 (by decide)
    subst ek
    rw [ct, nI_add, show (99999 : Int32) = nI 99999 from rfl, nI_leI (by omega) (by decide)]
    refine ⟨fun c => q7_paper hB (fun pd ps hps => ?_), fun c => ?_⟩
    · obtain ⟨n, nr, m, hX⟩ := hps.1.x
      refine zl6 (wp_X7_would_44 _) k (fun i v1 v2 v3 z1 z2 z3 => v1 = u ∧ v2 = pd ∧ z1 = nI k ∧ z2 = x2 ∧ z3 = nI i ∧ Tk n B x k (r.1 3) (r.2 4) i v3) ?_ 0 (Nat.zero_le _) u pd ps _ _ 0 ⟨rfl, rfl, rfl, rfl, rfl, Tk.start hX bd0 ex⟩
      rintro i C v1 v2 cs z1 z2 z3 hi ⟨rfl, rfl, rfl, rfl, rfl, hT⟩ hC
      unfold wp_X7_would_44
      refine ⟨fun z => ?_, fun z => ?_⟩
      · have hi := nI_stop (by omega) hi z
        subst hi
        obtain ⟨R1, S1, nr1, m1, hX2, hb2, hrun⟩ := hT.done
        have hs2 := hX2.sim
        have ref : ∀ (ans : Int32), (∀ (r2 : RS) (o2 : Nat → Int32), zst (rN (rN (zlay_ahead (rN r 0 0) 0) 18 0) 19 0) r2 R1 S1 o2 → ((z2 = 0 → zsum (fun q => R1 (433 + 140 * q)) 4 = ans) ∧ (z2 = 1 → r2.1 18 0 = ans) ∧ (z2 = 2 → r2.1 19 0 = ans) ∧ (z2 = 3 → R1 5 = ans))) → wp_X8_would r (nI i) z2 (fun y r1 => ans = y ∧ Rel (B + 30000) (tP v1 v2 cs) r1) := by
          intro ans ha
          unfold wp_X8_would wp_X8_would_104
          intro r1 f1
          subst f1
          refine q8_inr 1 100 (by decide) (by decide) (by decide) (fun _ _ _ _ => ⟨fun z => absurd z (by decide), fun _ => ?_⟩) (fun ho => absurd rfl (ho i k1 k2))
          rw [rt, nI_add, show (99999 : Int32) = nI 99999 from rfl]
          refine ⟨fun z => absurd z (nI_nlt (by omega) (by omega)), fun _ => q8_inr 0 3 (by decide) (by decide) (by decide) (fun _ _ _ _ => ⟨fun _ => q8_lay_ahead 0 rfl (by omega) ?_, fun z => absurd z (by decide)⟩) (fun ho => absurd ew (ho w (by omega) w3))⟩
          refine hrun _ _ (zlay3 r).1 (zlay3 r).2 (fun r2 o2 hst => ?_)
          obtain ⟨a0, a1, a2, a3⟩ := ha r2 o2 hst
          have back : Rel (B + 30000) (tP v1 v2 cs) (zbring_ahead r2 0) := k_back h (fun k kl k3 => by rw [hst.2.2.2.2.2.1 k k3 (by omega) (by omega) (by omega), rN_n _ _ (by omega), rN_n _ _ (by omega)]) (fun k k4 => by rw [hst.2.2.2.2.2.2 k k4]; rfl) hs2.sN
          refine ⟨fun y0 => ⟨fun y1 => ⟨fun y2 => q8_bring_ahead 0 rfl (by omega) ⟨?_, back⟩, fun y2 => q8_bring_ahead 0 rfl (by omega) ⟨(a2 y2).symm, back⟩⟩, fun y1 => q8_bring_ahead 0 rfl (by omega) ⟨(a1 y1).symm, back⟩⟩, fun y0 => q8_packets (q8_bring_ahead 0 rfl (by omega) ⟨?_, back⟩)⟩
          · rw [hst.1]
            refine (a3 ?_).symm
            have : w = 3 := by
              rcases (show w = 0 ∨ w = 1 ∨ w = 2 ∨ w = 3 by omega) with e | e | e | e
              · subst e; exact absurd ew y0
              · subst e; exact absurd ew y1
              · subst e; exact absurd ew y2
              · exact e
            subst this
            exact ew
          · rw [hst.1]; exact (a0 y0).symm
        have g18 : ∀ r2 o2, zst (rN (rN (zlay_ahead (rN r 0 0) 0) 18 0) 19 0) r2 R1 S1 o2 → r2.1 18 0 = (S1 0 - r.2 4 0).toInt32 := fun r2 o2 hst => zgiven hst (zlay3 r).2 (by rw [rN_n _ _ (by decide), rN_s])
        have g19 : ∀ r2 o2, zst (rN (rN (zlay_ahead (rN r 0 0) 0) 18 0) 19 0) r2 R1 S1 o2 → r2.1 19 0 = R1 10 - r.1 3 10 := fun r2 o2 hst => zcalled hst (by rw [rN_n _ _ (by decide), rN_n _ _ (by decide)]; exact (zlay3 r).1) (by rw [rN_s])
        refine ⟨fun y0 => q5_packetsWaiting (fun ps' e' => ?_), fun y1 => ?_, fun y2 => q5_callsInAll (fun ps' e' => q5_callsInAll (fun u2 e2 => ?_)), fun y0 y1 y2 => q0_ruleNumber n hX2.1 hX2.2.2.1.2.1 (fun ps' e' => ?_)⟩
        · subst e'
          exact ref _ (fun r2 o2 hst => ⟨fun _ => hs2.packets.symm, fun z => absurd (y0.symm.trans z) (by decide), fun z => absurd (y0.symm.trans z) (by decide), fun z => absurd (y0.symm.trans z) (by decide)⟩)
        · refine ref _ (fun r2 o2 hst => ⟨fun z => absurd (y1.symm.trans z) (by decide), fun _ => ?_, fun z => absurd (y1.symm.trans z) (by decide), fun z => absurd (y1.symm.trans z) (by decide)⟩)
          rw [g18 r2 o2 hst, hX2.s0]
          show _ = (S1 0 - (v1.2.2.1 4).2 1 0).toInt32
          rw [hXn.s0]
        · subst e'
          have eu : tP u2 v2 ps' = tP v1 v2 ps' := by rw [e2]; rfl
          rw [eu]
          refine ref _ (fun r2 o2 hst => ⟨fun z => absurd (y2.symm.trans z) (by decide), fun z => absurd (y2.symm.trans z) (by decide), fun _ => ?_, fun z => absurd (y2.symm.trans z) (by decide)⟩)
          rw [g19 r2 o2 hst, hs2.calls]
          show _ = R1 10 - zsum (fun q => (v1.2.2.1 (5 + q)).1 1 0) 4
          rw [hs.calls]
        · rw [va_up_id] at e'
          subst e'
          refine ref _ (fun r2 o2 hst => ⟨fun z => absurd z y0, fun z => absurd z y1, fun z => absurd z y2, fun _ => ?_⟩)
          rw [hX2.2.2.2.1.1.2.2.1]
          exact hX2.2.2.2.1.1.2.1
      · have hlt := nI_go (by omega) hi z
        refine hT.next k2 hlt c (fun cs1 hT1 ps' e' x' ex' => hC _ _ _ _ _ _ hlt ⟨rfl, rfl, rfl, rfl, by rw [ex', nI_1], by rw [e']; exact hT1⟩)
    · unfold wp_X8_would wp_X8_would_43
      intro r1 f1
      subst f1
      refine q8_inr 1 100 (by decide) (by decide) (by decide) (fun _ _ _ _ => ⟨fun z => absurd z (by decide), fun _ => ?_⟩) (fun ho => absurd rfl (ho k k1 k2))
      rw [rt, nI_add, show (99999 : Int32) = nI 99999 from rfl]
      refine ⟨fun _ => ⟨rfl, h0⟩, fun z => absurd ?_ z⟩
      rw [Int32.lt_iff_toInt_lt, nI_toInt (by omega), nI_toInt (by omega)]
      omega
