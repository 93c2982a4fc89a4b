-- the pure side: drain, nextCall, joined
theorem SimX.pk {n nr : Nat} {m : Nat → Nat} {cs : Nat → RS} {R : Nat → Int32} {S : Nat → Int64} (h : SimX n nr m cs R S) : ∃ P, P ≤ 128 ∧ zsum (fun q => R (433 + 140 * q)) 4 = nI P := by
  have hQ := h.2.2.2.2.2.1
  refine ⟨m 0 + m 1 + m 2 + m 3, ?_, ?_⟩
  · have := (hQ 0 (by omega)).1
    have := (hQ 1 (by omega)).1
    have := (hQ 2 (by omega)).1
    have := (hQ 3 (by omega)).1
    omega
  · show 0 + R (433 + 140 * 0) + R (433 + 140 * 1) + R (433 + 140 * 2) + R (433 + 140 * 3) = _
    have e0 : R (433 + 140 * 0) = nI (m 0) := (hQ 0 (by omega)).2.1
    have e1 : R (433 + 140 * 1) = nI (m 1) := (hQ 1 (by omega)).2.1
    have e2 : R (433 + 140 * 2) = nI (m 2) := (hQ 2 (by omega)).2.1
    have e3 : R (433 + 140 * 3) = nI (m 3) := (hQ 3 (by omega)).2.1
    rw [e0, e1, e2, e3, show (0 : Int32) = nI 0 from rfl, nI_add, nI_add, nI_add, nI_add, Nat.zero_add]
theorem q8_dr0 {Qb : Int32 → RS → Prop} {C : RS → Int32 → Prop} {r : RS} {x : Int32} (hp : zsum (fun q => r.1 3 (433 + 140 * q)) 4 ≤ 0) (h : Qb x (zbring_ahead r 0)) : wp_X8_drain_20 Qb C r x := by
  unfold wp_X8_drain_20 wp_X8_drain_56 wp_X8_drain_68
  exact q8_packets ⟨fun _ => q8_packets ⟨fun _ => q8_bring_ahead 0 rfl (by omega) h, fun z => absurd hp z⟩, fun z => absurd hp z⟩
theorem q8_dr1 {Qb : Int32 → RS → Prop} {C : RS → Int32 → Prop} {r : RS} {x : Int32} (hp : ¬ zsum (fun q => r.1 3 (433 + 140 * q)) 4 ≤ 0) (hs : 200 ≤ x ∨ 99999 ≤ r.1 3 6) (h : Qb (-1) (zbring_ahead r 0)) : wp_X8_drain_20 Qb C r x := by
  unfold wp_X8_drain_20 wp_X8_drain_56 wp_X8_drain_68
  have e : wp_X8_packets r (fun r106 u107 => ((r106 ≤ 0 → wp_X8_bring_ahead u107 0 (fun u109 => Qb x u109)) ∧ (¬ r106 ≤ 0 → wp_X8_bring_ahead u107 0 (fun u109 => Qb (-1) u109)))) := q8_packets ⟨fun z => absurd z hp, fun _ => q8_bring_ahead 0 rfl (by omega) h⟩
  refine q8_packets ⟨fun z => absurd z hp, fun _ => ⟨fun _ => e, fun a => ⟨fun _ => e, fun b => ?_⟩⟩⟩
  rcases hs with hs | hs
  · exact absurd hs a
  · exact absurd hs b
theorem q8_dr2 {Qb : Int32 → RS → Prop} {C : RS → Int32 → Prop} {r : RS} {i : Nat} (hp : ¬ zsum (fun q => r.1 3 (433 + 140 * q)) 4 ≤ 0) (h2 : ¬ (200 : Int32) ≤ nI i) (h9 : ¬ 99999 ≤ r.1 3 6) (h : wp_X8_ticks r (fun u => C u (nI (i + 1)))) : wp_X8_drain_20 Qb C r (nI i) := by
  unfold wp_X8_drain_20
  refine q8_packets ⟨fun z => absurd z hp, fun _ => ⟨fun z => absurd z h2, fun _ => ⟨fun z => absurd z h9, fun _ => ?_⟩⟩⟩
  have fe : (fun u112 => ∀ (x113 : Int32), x113 = nI i + 1 → C u112 x113) = (fun u => C u (nI (i + 1))) := by
    funext u
    exact propext ⟨fun hh => hh _ (by rw [nI_1]), fun hh x ex => by rw [ex, nI_1]; exact hh⟩
  rw [fe]
  exact h
theorem p_drain {B : Nat} : pX_drain (Rel B) (Rel (B + 30000)) := by
  intro u r h
  have bd0 : Bd B (r.1 3) (r.2 4) := h.2.2.1.2
  have hB := h
  replace h := h.up 30000
  unfold wp_X7_drain
  refine q7_paper hB (fun pd ps hps => ?_)
  obtain ⟨n, nr, m, hX⟩ := hps.1.x
  obtain ⟨r0, er0⟩ : ∃ r0, r0 = zlay_ahead (rN r 0 0) 0 := ⟨_, rfl⟩
  have back : ∀ (r2 : RS) (cs : Nat → RS) (R1 : Nat → Int32) (S1 : Nat → Int64) (o2 : Nat → Int32), sN (cs 4) → zst r0 r2 R1 S1 o2 → Rel (B + 30000) (tP u pd cs) (zbring_ahead r2 0) := fun r2 cs R1 S1 o2 hn hst => k_back h (fun k kl k3 => by rw [hst.2.2.2.2.2.1 k k3 (by omega) (by omega) (by omega), er0]) (fun k k4 => by rw [hst.2.2.2.2.2.2 k k4, er0]) hn
  have ref : ∀ (Q : Int32 → RS → Prop), zit2 (wp_X8_drain_20 Q) 201 r0 0 → wp_X8_drain r Q := by
    intro Q hq
    unfold wp_X8_drain
    intro r1 f1
    subst f1
    exact q8_lay_ahead 0 rfl (by omega) ⟨201, by rw [← er0]; exact hq⟩
  refine zl4 (wp_X7_drain_7 _) 201 (fun i v1 v2 v3 z => v1 = u ∧ v2 = pd ∧ z = nI i ∧ ∃ (R1 : Nat → Int32) (S1 : Nat → Int64) (nr1 : Nat) (m1 : Nat → Nat) (B1 : Nat), SimX n nr1 m1 v3 R1 S1 ∧ Bd B1 R1 S1 ∧ ((i ≤ 200 ∧ ∀ Qb : Int32 → RS → Prop, (∀ r1 o1, zst r0 r1 R1 S1 o1 → zit2 (wp_X8_drain_20 Qb) (200 - i + 1) r1 (nI i)) → zit2 (wp_X8_drain_20 Qb) 201 r0 0) ∨ (i = 201 ∧ ∀ Qb : Int32 → RS → Prop, (∀ r1 R2 S2 o1, zst r0 r1 R2 S2 o1 → Qb (-1) (zbring_ahead r1 0)) → zit2 (wp_X8_drain_20 Qb) 201 r0 0))) ?_ 0 (Nat.zero_le _) u pd ps 0 ⟨rfl, rfl, rfl, r.1 3, r.2 4, nr, m, B, hX, bd0, Or.inl ⟨by omega, fun Qb hc => hc r0 (r0.1 17) ⟨by rw [er0]; exact (zlay3 r).1, by rw [er0]; exact (zlay3 r).2, fun _ _ => rfl, rfl, rfl, fun _ _ _ _ _ => rfl, fun _ _ => rfl⟩⟩⟩
  rintro i C v1 v2 cs z hi ⟨rfl, rfl, rfl, R1, S1, nr1, m1, B1, hX1, hb1, hk⟩ hC
  have hs1 := hX1.sim
  unfold wp_X7_drain_7
  refine ⟨fun c => ?_, fun c => q5_packetsWaiting (fun ps' e' => ?_)⟩
  · rcases hk with ⟨i2, -⟩ | ⟨i2, hk⟩
    · exact absurd (show nI 200 < nI i from c) (nI_nlt i2 (by omega))
    · exact ref _ (hk _ (fun r1 R2 S2 o1 hst => ⟨rfl, back r1 cs R2 S2 o1 hs1.sN hst⟩))
  · subst e'
    rcases hk with ⟨i2, hk⟩ | ⟨i2, hk⟩
    · obtain ⟨P, P1, P2⟩ := hX1.pk
      rw [hs1.packets, P2]
      have hO := hX1.2.2.2.2.2.2.2.2.2.1
      obtain ⟨x, xle, ex⟩ := hO.2.2.2.1
      rw [hO.2.1]
      have pz : ∀ r1 : RS, r1.1 3 = R1 → zsum (fun q => r1.1 3 (433 + 140 * q)) 4 = nI P := fun r1 e => by rw [e]; exact P2
      refine ⟨fun hp => ?_, fun hp => ?_⟩
      · have hp0 : ¬ nI P ≤ 0 := fun z => hp (by rw [(nI_le0 (by omega)).mp z]; rfl)
        refine ⟨fun ht => ?_, fun ht => ?_⟩
        · have hx9 : x < 99999 := by
            rw [ex, show (99999 : Int32) = nI 99999 from rfl] at ht
            rcases Nat.lt_or_ge x 99999 with q | q
            · exact q
            · exact absurd ht (nI_nlt q (by omega))
          refine k_tick hX1 hb1 ex hx9 (fun cs2 R2 S2 nr2 m2 hX2 hb2 h62 hf2 hrun2 ps2 e2 y ey => ?_)
          rw [nI_1] at ey
          subst ey
          refine hC _ _ _ _ (by omega) ⟨rfl, rfl, rfl, R2, S2, nr2, m2, _, by rw [e2]; exact hX2, hb2, ?_⟩
          rcases Nat.lt_or_ge i 200 with hi2 | hi2
          · refine Or.inl ⟨by omega, fun Qb hc => hk Qb (fun r1 o1 hst => ?_)⟩
            rw [show 200 - i + 1 = (200 - (i + 1) + 1) + 1 by omega]
            show wp_X8_drain_20 Qb (zit2 (wp_X8_drain_20 Qb) (200 - (i + 1) + 1)) r1 (nI i)
            refine q8_dr2 (by rw [pz r1 hst.1]; exact hp0) (fun z => absurd ((nI_leI (a := 200) (by omega) (by omega)).mp z) (by omega)) (by rw [hst.1, ex]; exact fun z => absurd ((nI_leI (a := 99999) (by omega) (by omega)).mp z) (by omega)) ?_
            exact hrun2 r1 _ hst.1 hst.2.1 (fun r2 o2 hst2 => hc r2 o2 (hst.trans hst2))
          · have : i = 200 := by omega
            subst this
            refine Or.inr ⟨rfl, fun Qb hc => hk Qb (fun r1 o1 hst => ?_)⟩
            show wp_X8_drain_20 Qb (zit2 (wp_X8_drain_20 Qb) 0) r1 (nI 200)
            exact q8_dr1 (by rw [pz r1 hst.1]; exact hp0) (Or.inl (Int32.le_refl _)) (hc r1 _ _ o1 hst)
        · refine ref _ (hk _ (fun r1 o1 hst => ?_))
          show wp_X8_drain_20 _ (zit2 (wp_X8_drain_20 _) (200 - i)) r1 (nI i)
          refine q8_dr1 (by rw [pz r1 hst.1]; exact hp0) (Or.inr ?_) ⟨rfl, back r1 _ _ _ o1 hs1.sN hst⟩
          rw [hst.1]
          exact Int32.not_lt.mp ht
      · refine ref _ (hk _ (fun r1 o1 hst => ?_))
        show wp_X8_drain_20 _ (zit2 (wp_X8_drain_20 _) (200 - i)) r1 (nI i)
        exact q8_dr0 (by rw [pz r1 hst.1, hp]; exact Int32.le_refl _) ⟨rfl, back r1 _ _ _ o1 hs1.sN hst⟩
    · subst i2
      exact absurd (show nI 200 < nI 201 by decide) c
theorem q8_nc0 {Qb : Int32 → RS → Prop} {C : RS → Int32 → Int32 → Int32 → Prop} {r : RS} {q : Nat} {s x : Int32} (hq : q < 4) (hp : ¬ r.1 3 (433 + 140 * q + 3) = s) (h : Qb x (zbring_ahead r 0)) : wp_X8_nextCall_53 Qb C r (nI q) s x := by
  unfold wp_X8_nextCall_53 wp_X8_nextCall_90 wp_X8_nextCall_110
  have e : wp_X8_queueAt (nI q) (fun r114 => vp_in (r114 + 3) 1065 ∧ ((¬ r.1 3 (zn (r114 + 3)) = s → wp_X8_bring_ahead r 0 (fun u117 => Qb x u117)) ∧ (r.1 3 (zn (r114 + 3)) = s → wp_X8_bring_ahead r 0 (fun u117 => Qb (-1) u117)))) := by
    refine q8_queueAt q rfl ?_
    rw [show nI (433 + 140 * q) + 3 = nI (433 + 140 * q + 3) from nI_addl _ _, zn_nI (by omega)]
    exact ⟨in_nI (by omega) (by decide), fun _ => q8_bring_ahead 0 rfl (by omega) h, fun z => absurd z hp⟩
  refine q8_queueAt q rfl ?_
  rw [show nI (433 + 140 * q) + 3 = nI (433 + 140 * q + 3) from nI_addl _ _, zn_nI (by omega)]
  exact ⟨in_nI (by omega) (by decide), fun _ => e, fun z => absurd z hp⟩
theorem q8_nc1 {Qb : Int32 → RS → Prop} {C : RS → Int32 → Int32 → Int32 → Prop} {r : RS} {q : Nat} {s x : Int32} (hq : q < 4) (hp : r.1 3 (433 + 140 * q + 3) = s) (h9 : 99999 ≤ r.1 3 6) (h : Qb (-1) (zbring_ahead r 0)) : wp_X8_nextCall_53 Qb C r (nI q) s x := by
  unfold wp_X8_nextCall_53 wp_X8_nextCall_90 wp_X8_nextCall_110
  have e : wp_X8_queueAt (nI q) (fun r114 => vp_in (r114 + 3) 1065 ∧ ((¬ r.1 3 (zn (r114 + 3)) = s → wp_X8_bring_ahead r 0 (fun u117 => Qb x u117)) ∧ (r.1 3 (zn (r114 + 3)) = s → wp_X8_bring_ahead r 0 (fun u117 => Qb (-1) u117)))) := by
    refine q8_queueAt q rfl ?_
    rw [show nI (433 + 140 * q) + 3 = nI (433 + 140 * q + 3) from nI_addl _ _, zn_nI (by omega)]
    exact ⟨in_nI (by omega) (by decide), fun z => absurd hp z, fun _ => q8_bring_ahead 0 rfl (by omega) h⟩
  refine q8_queueAt q rfl ?_
  rw [show nI (433 + 140 * q) + 3 = nI (433 + 140 * q + 3) from nI_addl _ _, zn_nI (by omega)]
  exact ⟨in_nI (by omega) (by decide), fun z => absurd hp z, fun _ => ⟨fun _ => e, fun z => absurd h9 z⟩⟩
theorem q8_nc2 {Qb : Int32 → RS → Prop} {C : RS → Int32 → Int32 → Int32 → Prop} {r : RS} {q i : Nat} {s : Int32} (hq : q < 4) (hp : r.1 3 (433 + 140 * q + 3) = s) (h9 : ¬ 99999 ≤ r.1 3 6) (h : wp_X8_ticks r (fun u => C u (nI q) s (nI (i + 1)))) : wp_X8_nextCall_53 Qb C r (nI q) s (nI i) := by
  unfold wp_X8_nextCall_53
  refine q8_queueAt q rfl ?_
  rw [show nI (433 + 140 * q) + 3 = nI (433 + 140 * q + 3) from nI_addl _ _, zn_nI (by omega)]
  refine ⟨in_nI (by omega) (by decide), fun z => absurd hp z, fun _ => ⟨fun z => absurd z h9, fun _ => ?_⟩⟩
  have fe : (fun u119 => ∀ (x120 : Int32), x120 = nI i + 1 → C u119 (nI q) s x120) = (fun u => C u (nI q) s (nI (i + 1))) := by
    funext u
    exact propext ⟨fun hh => hh _ (by rw [nI_1]), fun hh x ex => by rw [ex, nI_1]; exact hh⟩
  rw [fe]
  exact h
theorem p_nextCall {B : Nat} : pX_nextCall (Rel B) (Rel (B + 30000)) := by
  intro u r x1 h
  have bd0 : Bd B (r.1 3) (r.2 4) := h.2.2.1.2
  have hB := h
  replace h := h.up 30000
  have h0 : Rel (B + 30000) u (rN r 0 0) := h
  have hs : Sim u.2.2.1 (r.1 3) (r.2 4) := h.2.2.1.1
  obtain ⟨n0, nr0, m0, hX0⟩ := hs.x
  have hO := hX0.2.2.2.2.2.2.2.2.2.1
  obtain ⟨x, xle, ex⟩ := hO.2.2.2.1
  have ct : (u.2.2.1 0).1 6 0 = nI x := by rw [hO.2.1]; exact ex
  unfold wp_X7_nextCall wp_X7_nextCall_22
  refine q7_isQueue (fun q hq e => ⟨fun z => absurd z (by decide), fun _ => ?_⟩) (fun ho => ⟨fun _ => ?_, fun z => absurd rfl z⟩)
  · subst e
    have iq : vp_in (nI q) 4 := in_nI (by omega) (by decide)
    obtain ⟨q1, q2, q3, -⟩ := hX0.2.2.2.2.2.1 q (by omega)
    have cm : (u.2.2.1 (5 + q)).1 0 0 = nI (m0 q) := (q3 0 (by omega)).trans q2
    have rm : (rN r 0 0).1 3 (433 + 140 * q) = nI (m0 q) := q2
    have c3 : (u.2.2.1 (5 + q)).1 1 0 = r.1 3 (433 + 140 * q + 3) := q3 3 (by omega)
    rw [zn_nI (by omega), cm]
    refine ⟨iq, iq, fun c => q7_paper hB (fun pd ps hps => ⟨iq, iq, fun s es => ?_⟩), fun c => ?_⟩
    · replace es : s = r.1 3 (433 + 140 * q + 3) := es.trans c3
      obtain ⟨n, nr, m, hX⟩ := hps.1.x
      obtain ⟨r0, er0⟩ : ∃ r0, r0 = zlay_ahead (rN r 0 0) 0 := ⟨_, rfl⟩
      have back : ∀ (r2 : RS) (cs : Nat → RS) (R1 : Nat → Int32) (S1 : Nat → Int64) (o2 : Nat → Int32), sN (cs 4) → zst r0 r2 R1 S1 o2 → Rel (B + 30000) (tP u pd cs) (zbring_ahead r2 0) := fun r2 cs R1 S1 o2 hn hst => k_back h (fun k kl k3 => by rw [hst.2.2.2.2.2.1 k k3 (by omega) (by omega) (by omega), er0]) (fun k k4 => by rw [hst.2.2.2.2.2.2 k k4, er0]) hn
      obtain ⟨N, eN⟩ : ∃ N, N = 99999 - x := ⟨_, rfl⟩
      have ref : ∀ (Q : Int32 → RS → Prop), zit4 (wp_X8_nextCall_53 Q) (N + 1) r0 (nI q) s 0 → wp_X8_nextCall r (nI q) Q := by
        intro Q hQ
        unfold wp_X8_nextCall
        intro r1 f1
        subst f1
        refine q8_isQueue (fun _ _ _ => ⟨fun z => absurd z (by decide), fun _ => q8_queueAt q rfl ?_⟩) (fun ho => absurd rfl (ho q hq))
        rw [zn_nI (by omega), rm]
        refine ⟨in_nI (by omega) (by decide), fun _ => q8_lay_ahead 0 rfl (by omega) (q8_queueAt q rfl ?_), fun z => absurd z c⟩
        rw [show nI (433 + 140 * q) + 3 = nI (433 + 140 * q + 3) from nI_addl _ _, zn_nI (by omega), (zlay3 r).1, ← es, ← er0]
        exact ⟨in_nI (by omega) (by decide), fun y ey => ⟨N + 1, by rw [ey]; exact hQ⟩⟩
      refine zl6 (wp_X7_nextCall_45 _) N (fun i v1 v2 v3 z1 z2 z3 => v1 = u ∧ v2 = pd ∧ z1 = nI q ∧ z2 = s ∧ z3 = nI (i + 1) ∧ ∃ (R1 : Nat → Int32) (S1 : Nat → Int64) (nr1 : Nat) (m1 : Nat → Nat) (B1 : Nat), SimX n nr1 m1 v3 R1 S1 ∧ Bd B1 R1 S1 ∧ R1 6 = nI (x + i) ∧ R1 (433 + 140 * q + 3) = s ∧ ∀ Qb : Int32 → RS → Prop, (∀ r1 o1, zst r0 r1 R1 S1 o1 → zit4 (wp_X8_nextCall_53 Qb) (N - i + 1) r1 (nI q) s (nI i)) → zit4 (wp_X8_nextCall_53 Qb) (N + 1) r0 (nI q) s 0) ?_ 0 (Nat.zero_le _) u pd ps _ _ 1 ⟨rfl, rfl, rfl, rfl, rfl, r.1 3, r.2 4, nr, m, B, hX, bd0, ex, es.symm, fun Qb hc => hc r0 (r0.1 17) ⟨by rw [er0]; exact (zlay3 r).1, by rw [er0]; exact (zlay3 r).2, fun _ _ => rfl, rfl, rfl, fun _ _ _ _ _ => rfl, fun _ _ => rfl⟩⟩
      rintro i C v1 v2 cs z1 z2 z3 hi ⟨rfl, rfl, rfl, rfl, rfl, R1, S1, nr1, m1, B1, hX1, hb1, h61, hc1, hk⟩ hC
      have hs1 := hX1.sim
      unfold wp_X7_nextCall_45
      have e9 : 99999 - ((tP v1 v2 cs).2.2.1 0).1 6 0 = nI N := by
        show 99999 - (v1.2.2.1 0).1 6 0 = _
        rw [ct, eN]
        exact nI_sub xle
      rw [e9]
      refine ⟨fun z => ?_, fun z => ?_⟩
      · have hiN : i = N := by
          rcases Nat.lt_or_ge i N with q | q
          · exact absurd z (nI_nlt (by omega) (by omega))
          · omega
        subst hiN
        refine ref _ (hk _ (fun r1 o1 hst => ?_))
        rw [Nat.sub_self]
        show wp_X8_nextCall_53 _ (zit4 (wp_X8_nextCall_53 _) 0) r1 _ _ _
        refine q8_nc1 (by omega) (by rw [hst.1]; exact hc1) ?_ ⟨rfl, back r1 _ _ _ o1 hs1.sN hst⟩
        rw [hst.1, h61, show x + i = 99999 by omega]
        exact Int32.le_refl _
      · have hlt : i < N := by
          rcases Nat.lt_or_ge i N with q | q
          · exact q
          · have : i = N := by omega
            subst this
            exact absurd (by rw [Int32.lt_iff_toInt_lt, nI_toInt (by omega), nI_toInt (by omega)]; omega) z
        refine k_tick hX1 hb1 h61 (by omega) (fun cs2 R2 S2 nr2 m2 hX2 hb2 h62 hf2 hrun2 ps2 e2 => ⟨iq, iq, ?_⟩)
        subst e2
        have c32 : (ps2 (5 + q)).1 1 0 = R2 (433 + 140 * q + 3) := (hX2.2.2.2.2.2.1 q (by omega)).2.2.1 3 (by omega)
        rw [zn_nI (by omega), c32]
        have step : ∀ Qb : Int32 → RS → Prop, (∀ r1 o1, zst r0 r1 R2 S2 o1 → zit4 (wp_X8_nextCall_53 Qb) (N - (i + 1) + 1) r1 (nI q) z2 (nI (i + 1))) → zit4 (wp_X8_nextCall_53 Qb) (N + 1) r0 (nI q) z2 0 := by
          intro Qb hc
          refine hk Qb (fun r1 o1 hst => ?_)
          rw [show N - i + 1 = (N - (i + 1) + 1) + 1 by omega]
          show wp_X8_nextCall_53 Qb (zit4 (wp_X8_nextCall_53 Qb) (N - (i + 1) + 1)) r1 (nI q) z2 (nI i)
          refine q8_nc2 (by omega) (by rw [hst.1]; exact hc1) (by rw [hst.1, h61]; exact fun z => absurd ((nI_leI (a := 99999) (by omega) (by omega)).mp z) (by omega)) ?_
          exact hrun2 r1 _ hst.1 hst.2.1 (fun r2 o2 hst2 => hc r2 o2 (hst.trans hst2))
        refine ⟨fun hsame y ey => ?_, fun hne => ?_⟩
        · rw [nI_1] at ey
          subst ey
          exact hC _ _ _ _ _ _ hlt ⟨rfl, rfl, rfl, rfl, rfl, R2, S2, nr2, m2, _, hX2, hb2, h62, hsame, step⟩
        · refine ref _ (step _ (fun r1 o1 hst => ?_))
          show wp_X8_nextCall_53 _ (zit4 (wp_X8_nextCall_53 _) (N - (i + 1))) r1 _ _ _
          exact q8_nc0 (by omega) (by rw [hst.1]; exact hne) ⟨rfl, back r1 _ _ _ o1 hX2.sim.sN hst⟩
    · unfold wp_X8_nextCall wp_X8_nextCall_24
      intro r1 f1
      subst f1
      refine q8_isQueue (fun _ _ _ => ⟨fun z => absurd z (by decide), fun _ => q8_queueAt q rfl ?_⟩) (fun ho => absurd rfl (ho q hq))
      rw [zn_nI (by omega), rm]
      exact ⟨in_nI (by omega) (by decide), fun z => absurd c z, fun _ => ⟨rfl, h0⟩⟩
  · unfold wp_X8_nextCall wp_X8_nextCall_24
    intro r1 f1
    subst f1
    exact q8_isQueue (fun q hq e => absurd e (ho q hq)) (fun _ => ⟨fun _ => ⟨rfl, h0⟩, fun z => absurd rfl z⟩)
