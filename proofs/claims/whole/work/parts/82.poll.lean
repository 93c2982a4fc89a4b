-- the pure side: poll
theorem p_poll {B : Nat} : pX_poll (Rel B) (Rel (B + 30000)) := by
  intro u r x1 h
  have bd0 : Bd B (r.1 3) (r.2 4) := h.2.2.1.2
  replace h := h.up 30000
  have h0 : Rel0 (B + 30000) u (rN r 0 0) := h.2
  have hs : Sim u.2.2.1 (r.1 3) (r.2 4) := h.2.2.1.1
  obtain ⟨n, nr, m, hX⟩ := hs.x
  have hQu := hX.2.2.2.2.2.1
  unfold wp_X7_poll
  refine q7_isQueue (fun q hq e => ⟨fun _ => ?_, fun z => absurd z (by decide)⟩) (fun ho => ⟨fun z => absurd rfl z, fun _ => ?_⟩)
  · subst e
    have iq : vp_in (nI q) 4 := in_nI (by omega) (by decide)
    obtain ⟨q1, q2, q3, -⟩ := hQu q (by omega)
    have cm : (u.2.2.1 (5 + q)).1 0 0 = nI (m q) := (q3 0 (by omega)).trans q2
    have rm : (rN r 0 0).1 3 (433 + 140 * q) = nI (m q) := q2
    rw [zn_nI (by omega), cm]
    refine ⟨iq, iq, fun c => ?_, fun c => ?_⟩
    · refine q7_begin h0 (fun u1 l1 n1 o1 hrem => ?_)
      rw [n1]
      refine k_takes hX bd0 (by omega) (fun cs1 R1 S1 nr1 hX1 hb1 hfr1 hrun1 u2 e2 => ?_)
      unfold wp_X8_poll
      intro r1 f1
      subst f1
      refine q8_isQueue (fun _ _ _ => ⟨fun _ => q8_queueAt q rfl ?_, fun z => absurd z (by decide)⟩) (fun ho => absurd rfl (ho q hq))
      rw [zn_nI (by omega), rm]
      refine ⟨in_nI (by omega) (by decide), fun _ => q8_rem h0 (fun mm v m1 m2 hz => ?_), fun z => absurd z c⟩
      refine hrun1 v _ hz.row.1 hz.row.2 (fun r2 o2 hst => ?_)
      unfold wp_X8_tell
      intro r3 d3
      obtain ⟨s1, s2, s3, s4, s5, s6, s7⟩ := hst
      refine ⟨rfl, k_end (hrem mm v m1 m2 hz) l1 e2 (by rw [d3, rN_s]) (fun j hj => by rw [d3, rN_n _ _ (by omega), s6 j (by omega) (by omega) (by omega) (by omega)]) (fun j hj => by rw [d3, rN_2, s7 j (by omega)]) ?_⟩
      rw [d3, rN_n _ _ (by decide), rN_2, s1, s2]
      exact ⟨hX1.sim, hb1.to (by omega)⟩
    · refine k_refuse 4 (-4) (by decide) (by decide) h0 (fun u1 hu => ?_)
      unfold wp_X8_poll
      intro r1 f1
      subst f1
      refine q8_isQueue (fun _ _ _ => ⟨fun _ => q8_queueAt q rfl ?_, fun z => absurd z (by decide)⟩) (fun ho => absurd rfl (ho q hq))
      rw [zn_nI (by omega), rm]
      exact ⟨in_nI (by omega) (by decide), fun z => absurd c z, fun _ => hu _ (fun r2 hr => ⟨rfl, hr⟩)⟩
  · refine k_refuse 1 (-1) (by decide) (by decide) h0 (fun u1 hu => ?_)
    unfold wp_X8_poll
    intro r1 f1
    subst f1
    exact q8_isQueue (fun q hq e => absurd e (ho q hq)) (fun _ => ⟨fun z => absurd rfl z, fun _ => hu _ (fun r2 hr => ⟨rfl, hr⟩)⟩)
