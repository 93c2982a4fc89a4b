-- the pure side: joined
theorem q8_jo0 {Qb : Int32 → RS → Prop} {C : RS → Int32 → Prop} {r : RS} {q : Nat} (hq : q < 4) (hm : r.1 3 (433 + 140 * q) ≤ 0) (h : Qb ((zbring_ahead r 0).1 18 0) (zbring_ahead r 0)) : wp_X8_joined_77 Qb C r (nI q) := by
  unfold wp_X8_joined_77
  refine q8_queueAt q rfl ?_
  rw [zn_nI (by omega)]
  exact ⟨in_nI (by omega) (by decide), fun _ => q8_bring_ahead 0 rfl (by omega) h, fun z => absurd hm z⟩
theorem q8_jo1 {Qb : Int32 → RS → Prop} {C : RS → Int32 → Prop} {r : RS} {q : Nat} (hq : q < 4) (hm : ¬ r.1 3 (433 + 140 * q) ≤ 0) (h : wp_X8_takes r (nI q) (fun _ u => C u (nI q))) : wp_X8_joined_77 Qb C r (nI q) := by
  unfold wp_X8_joined_77
  refine q8_queueAt q rfl ?_
  rw [zn_nI (by omega)]
  exact ⟨in_nI (by omega) (by decide), fun z => absurd z hm, fun _ => h⟩
theorem p_joined {B : Nat} : pX_joined (Rel B) (Rel (B + 30000)) := by
  intro u r x1 x2 h
  have bd0 : Bd B (r.1 3) (r.2 4) := h.2.2.1.2
  have hB := h
  replace h := h.up 30000
  have h0 : Rel (B + 30000) u (rN r 0 0) := h
  have hs : Sim u.2.2.1 (r.1 3) (r.2 4) := h.2.2.1.1
  obtain ⟨n0, nr0, m0, hX0⟩ := hs.x
  unfold wp_X7_joined wp_X7_joined_16
  refine q7_isQueue (fun q hq e => ⟨fun z => absurd z (by decide), fun _ => ?_⟩) (fun ho => ⟨fun _ => ?_, fun z => absurd rfl z⟩)
  · subst e
    have hq4 : q < 4 := by omega
    have iq : vp_in (nI q) 4 := in_nI (by omega) (by decide)
    obtain ⟨q1, q2, q3, -⟩ := hX0.2.2.2.2.2.1 q (by omega)
    have cm : (u.2.2.1 (5 + q)).1 0 0 = nI (m0 q) := (q3 0 (by omega)).trans q2
    have out2 : (¬ ∃ k, k ≤ 2 ∧ x2 = nI k) → wp_X8_joined r (nI q) x2 (fun y r1 => -1 = y ∧ Rel (B + 30000) u r1) := by
      intro hno
      unfold wp_X8_joined wp_X8_joined_24
      intro r1 f1
      subst f1
      exact q8_isQueue (fun _ _ _ => ⟨fun z => absurd z (by decide), fun _ => q8_inr 0 2 (by decide) (by decide) (by decide) (fun k _ k2 e => absurd ⟨k, k2, e⟩ hno) (fun _ => ⟨fun z => absurd rfl z, fun _ => ⟨rfl, h0⟩⟩)⟩) (fun ho => absurd rfl (ho q hq))
    refine ⟨fun c => out2 ?_, fun c1 => ⟨fun c2 => q7_paper hB (fun pd ps hps => ?_), fun c => out2 ?_⟩⟩
    · rintro ⟨k, k2, rfl⟩
      exact absurd c (nI_pos (by omega))
    · obtain ⟨w, w2, ew⟩ := nI_3 (n := 2) c1 (Int32.not_lt.mpr c2) (by decide)
      obtain ⟨r0, er0⟩ : ∃ r0, r0 = zlay_ahead (rN r 0 0) 0 := ⟨_, rfl⟩
      have r03 : r0.1 3 = r.1 3 := by rw [er0]; exact (zlay3 r).1
      have r04 : r0.2 4 = r.2 4 := by rw [er0]; exact (zlay3 r).2
      have main : ∀ (t : Int32) (cs : Nat → RS), Sim cs (upd (r.1 3) 17 t) (r.2 4) → (∀ Q : Int32 → RS → Prop, (∃ n, zit2 (wp_X8_joined_77 Q) n (rN (rI r0 3 (upd (r.1 3) 17 t)) 18 0) (nI q)) → wp_X8_joined r (nI q) x2 Q) → wp_X7_joined_51 (fun x u1 => wp_X8_joined r (nI q) x2 (fun y r1 => x = y ∧ Rel (B + 30000) u1 r1)) u pd cs (nI q) := by
        intro t cs hsim ref
        obtain ⟨n, nr, m, hX⟩ := hsim.x
        obtain ⟨R, eR⟩ : ∃ R, R = upd (r.1 3) 17 t := ⟨_, rfl⟩
        obtain ⟨r1, er1⟩ : ∃ r1, r1 = rN (rI r0 3 (upd (r.1 3) 17 t)) 18 0 := ⟨_, rfl⟩
        rw [← er1] at ref
        rw [← eR] at hX
        have b0 : Bd B R (r.2 4) := bd0.frq (fun e he => by rw [eR, pk_un (by omega)]) (fun p i hp hi => by rw [eR, pk_un (by omega)])
        have em : m q = m0 q := by
          have a1 := (hX.2.2.2.2.2.1 q hq4).2.1
          have a2 := (hX.2.2.2.2.2.1 q hq4).1
          have a3 : R (433 + 140 * q + 0) = nI (m0 q) := by
            rw [eR, pk_un (by omega)]; exact q2
          exact (nI_eq (by omega) (by omega)).mp (a1.symm.trans a3)
        have r13 : r1.1 3 = R := by rw [er1, rN_n _ _ (by decide), rI_s, eR]
        have r14 : r1.2 4 = r.2 4 := by rw [er1]; exact r04
        have r118 : r1.1 18 0 = 0 := by rw [er1, rN_s]
        unfold wp_X7_joined_51
        refine zl5 (wp_X7_joined_54 _) 2 (fun i v1 v2 v3 z1 z2 => v1 = u ∧ v2 = pd ∧ z1 = nI q ∧ z2 = nI (16 * i) ∧ ∃ (R1 : Nat → Int32) (S1 : Nat → Int64) (nr1 : Nat) (m1 : Nat → Nat) (B1 : Nat), SimX n nr1 m1 v3 R1 S1 ∧ Bd B1 R1 S1 ∧ m1 q = m0 q - 16 * i ∧ ∀ Qb : Int32 → RS → Prop, (∀ r2 o2, zst r1 r2 R1 S1 o2 → zit2 (wp_X8_joined_77 Qb) (2 - i + 1) r2 (nI q)) → zit2 (wp_X8_joined_77 Qb) 3 r1 (nI q)) ?_ 0 (Nat.zero_le _) u pd cs _ 0 ⟨rfl, rfl, rfl, rfl, R, r.2 4, nr, m, B, hX, b0, by rw [em]; omega, fun Qb hc => hc r1 (r1.1 17) ⟨r13, r14, fun _ _ => rfl, rfl, rfl, fun _ _ _ _ _ => rfl, fun _ _ => rfl⟩⟩
        rintro i C v1 v2 cs1 z1 z2 hi ⟨rfl, rfl, rfl, rfl, R1, S1, nr1, m1, B1, hX1, hb1, hm1, hk⟩ hC
        have hs1 := hX1.sim
        obtain ⟨w1, w2', w3, -⟩ := hX1.2.2.2.2.2.1 q hq4
        have w2 : R1 (433 + 140 * q) = nI (m1 q) := w2'
        unfold wp_X7_joined_54
        rw [zn_nI (by omega)]
        have ecm : ((tP v1 v2 cs1).2.2.1 (5 + q)).1 0 0 = nI (m0 q) := cm
        rw [ecm]
        refine ⟨iq, iq, fun z => ?_, fun z => ?_⟩
        · have hle := (nI_leI (by omega) (by omega)).mp z
          refine ref _ ⟨3, hk _ (fun r2 o2 hst => ?_)⟩
          show wp_X8_joined_77 _ (zit2 (wp_X8_joined_77 _) (2 - i)) r2 (nI q)
          refine q8_jo0 hq4 ?_ ⟨?_, ?_⟩
          · rw [hst.1, w2, nI_le0 (by omega)]; omega
          · have g := zgiven hst r14 r118
            have e18 : (zbring_ahead r2 0).1 18 = r2.1 18 := by
              unfold zbring_ahead
              rw [rL_1, rI_n _ _ (by decide)]
            rw [e18, g, hX1.s0]
            show (S1 0 - (v1.2.2.1 4).2 1 0).toInt32 = _
            rw [hX0.s0]
          · refine k_back h (fun k kl k3 => ?_) (fun k k4 => ?_) hs1.sN
            · rw [hst.2.2.2.2.2.1 k k3 (by omega) (by omega) (by omega), er1, rN_n _ _ (by omega), rI_n _ _ k3, er0]
            · rw [hst.2.2.2.2.2.2 k k4, er1, rN_2, rI_2, er0]
        · have hgt : 16 * i < m0 q := by
            rcases Nat.lt_or_ge (16 * i) (m0 q) with y | y
            · exact y
            · exact absurd (nI_le y (by omega)) z
          have hlt : i < 2 := by omega
          refine k_takes hX1 hb1 hq4 (fun cs2 R2 S2 nr2 hX2 hb2 hfr2 hrun2 ps2 e2 y ey => ?_)
          rw [show nI (16 * i) + 16 = nI (16 * (i + 1)) from nI_addl _ _] at ey
          subst ey
          subst e2
          refine hC _ _ _ _ _ hlt ⟨rfl, rfl, rfl, rfl, R2, S2, nr2, _, _, hX2, hb2, by show (if q = q then m1 q - min 16 (m1 q) else m1 q) = _; rw [if_pos rfl]; omega, fun Qb hc => hk Qb (fun r2 o2 hst => ?_)⟩
          rw [show 2 - i + 1 = (2 - (i + 1) + 1) + 1 by omega]
          show wp_X8_joined_77 Qb (zit2 (wp_X8_joined_77 Qb) (2 - (i + 1) + 1)) r2 (nI q)
          refine q8_jo1 hq4 (by rw [hst.1, w2, nI_le0 (by omega)]; omega) ?_
          exact hrun2 r2 _ hst.1 hst.2.1 (fun r3 o3 hst3 => hc r3 o3 (hst.trans hst3))
      have ref71 : ∀ (t : Int32) (Q : Int32 → RS → Prop), (∃ n, zit2 (wp_X8_joined_77 Q) n (rN (rI r0 3 (upd (r.1 3) 17 t)) 18 0) (nI q)) → wp_X8_joined_71 Q r0 (nI q) t 17 := by
        intro t Q hQ
        unfold wp_X8_joined_71
        refine ⟨in_nI (n := 17) (by decide) (by decide), fun a1 d1 a2 d2 => ?_⟩
        rw [d2, d1, r03]
        exact hQ
      have refh : ∀ (Q : Int32 → RS → Prop), ((¬ x2 = 0 → ((¬ x2 = 1 → wp_X8_joined_71 Q r0 (nI q) 1 17) ∧ (x2 = 1 → wp_X8_joined_71 Q r0 (nI q) 9999 17))) ∧ (x2 = 0 → wp_X8_joined_71 Q r0 (nI q) (r0.1 3 17) 17)) → wp_X8_joined r (nI q) x2 Q := by
        intro Q hQ
        unfold wp_X8_joined
        intro a1 d1
        subst d1
        refine q8_isQueue (fun _ _ _ => ⟨fun z => absurd z (by decide), fun _ => q8_inr 0 2 (by decide) (by decide) (by decide) (fun k _ k2 e => ⟨fun _ => q8_lay_ahead 0 rfl (by omega) ?_, fun z => absurd z (by decide)⟩) (fun ho => absurd ew (ho w (by omega) w2))⟩) (fun ho => absurd rfl (ho q hq))
        rw [← er0]
        exact hQ
      refine ⟨fun y0 => ?_, fun y0 => ⟨fun y1 => ?_, fun y1 => ?_⟩⟩
      · refine main (r.1 3 17) ps ?_ (fun Q hQ => refh Q ⟨fun z => absurd y0 z, fun _ => ref71 _ Q ?_⟩)
        · have : upd (r.1 3) 17 (r.1 3 17) = r.1 3 := by
            funext j
            by_cases e : j = 17
            · subst e; rw [pk_us]
            · rw [pk_un e]
          rw [this]; exact hps.1
        · rw [r03]; exact hQ
      · unfold wp_X7_joined_50
        refine ⟨in_nI (n := 3) (by decide) (by decide), fun ps1 e1 => main 1 ps1 ?_ (fun Q hQ => refh Q ⟨fun _ => ⟨fun _ => ref71 1 Q hQ, fun z => absurd z y1⟩, fun z => absurd z y0⟩)⟩
        rw [e1]
        exact hps.1.term 3 1 (by omega) (by decide) (by decide)
      · unfold wp_X7_joined_50
        refine ⟨in_nI (n := 3) (by decide) (by decide), fun ps1 e1 => main 9999 ps1 ?_ (fun Q hQ => refh Q ⟨fun _ => ⟨fun z => absurd y1 z, fun _ => ref71 9999 Q hQ⟩, fun z => absurd z y0⟩)⟩
        rw [e1]
        exact hps.1.term 3 9999 (by omega) (by decide) (by decide)
    · rintro ⟨k, k2, rfl⟩
      exact absurd (show nI k ≤ nI 2 from nI_le k2 (by decide)) c
  · unfold wp_X8_joined wp_X8_joined_24
    intro r1 f1
    subst f1
    exact q8_isQueue (fun q hq e => absurd e (ho q hq)) (fun _ => ⟨fun _ => ⟨rfl, h0⟩, fun z => absurd rfl z⟩)
