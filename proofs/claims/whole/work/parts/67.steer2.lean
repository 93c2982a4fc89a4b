-- the pure side: steer, free
theorem sR_of {n nr : Nat} {c R : Nat → Int32} (h : rRel n c R nr) (h1 : ∀ f, f < n → zhasR c f = true → ∃ q, q < 4 ∧ c (13 * 24 + f) = nI q) (h2 : ∀ f, f < n → zhasR c f = false → c (14 * 24 + f) = -1) : sR n nr c R := by
  refine ⟨h, fun r hr => ?_, h2⟩
  obtain ⟨f, f1, f2, f3, f4, f5⟩ := h.2.2.2.1 r hr
  rw [f4]
  exact h1 f f1 f3
theorem sR.rng {n nr : Nat} {c R : Nat → Int32} (h : sR n nr c R) (hn : n ≤ 24) : ∀ f, f < n → zhasR c f = true → ∃ q, q < 4 ∧ c (13 * 24 + f) = nI q := by
  intro f hf hz
  obtain ⟨⟨r1, r2, r3, r4, r5, r6⟩, r7, r8⟩ := h
  obtain ⟨r, q1, q2⟩ := r5 f hf hz
  obtain ⟨g, g1, g2, g3, g4, g5⟩ := r4 r q1
  obtain ⟨q, k1, k2⟩ := r7 r q1
  have e : g = f := (nI_eq (by omega) (by omega)).mp (g2.symm.trans q2)
  subst e
  exact ⟨q, k1, by rw [← g4]; exact k2⟩
/-- rules changed: what stands else is as it was -/
theorem Sim.ruled {cs : Nat → RS} {R R1 : Nat → Int32} {S : Nat → Int64} {n nr1 : Nat} {w : RS} (h : Sim cs R S) (h0 : (cs 2).1 0 0 = nI n) (h24 : n ≤ 24) (w0 : w.1 0 = (cs 2).1 0) (w1 : ∀ a j, a < 20 → a ≠ 13 → a ≠ 14 → j < 24 → w.1 1 (a * 24 + j) = (cs 2).1 1 (a * 24 + j)) (w2 : ∀ j, n ≤ j → j < 24 → w.1 1 (13 * 24 + j) = 0 ∧ w.1 1 (14 * 24 + j) = 0) (hr : sR n nr1 (w.1 1) R1) (hz : zframe R R1) : Sim (va_up cs 2 w) R1 S := by
  obtain ⟨n', nr, m, h0', hK, hF, hR, hT, hQ, hW, hG, hN, hO, hA⟩ := h
  have en : n' = n := (nI_eq (by have := hF.2.1; omega) (by omega)).mp (h0'.symm.trans h0)
  subst en
  have fr : ∀ i, i ≠ 5 → ¬ (55 ≤ i ∧ i < 73) → R1 i = R i := hz
  refine ⟨n', nr1, m, ?_, ?_, ?_, ?_, ?_, ?_, ?_, ?_, ?_, ?_, ?_⟩
  · rw [vu_s, w0]; exact h0'
  · rw [vu_n _ _ (by decide)]; exact hK.fr (fun i hi => fr i (by omega) (by omega))
  · rw [vu_s]
    obtain ⟨f1, f2, f3, f4, f5, f6, f7, f8⟩ := hF.fr (R1 := R1) (fun i hi => fr i (by omega) (by omega))
    refine ⟨f1, f2, fun j k hj hk => ?_, f4, f5, f6, f7, fun j k g1 g2 g3 => ?_⟩
    · obtain ⟨z1, z2, z3, z4, z5⟩ := zrow_ne k hk
      rw [w1 _ _ z5 z1 z2 (by omega)]; exact f3 j k hj hk
    · by_cases e : k = 13
      · subst e; exact (w2 j g1 g2).1
      · by_cases e2 : k = 14
        · subst e2; exact (w2 j g1 g2).2
        · rw [w1 k j g3 e e2 g2]; exact f8 j k g1 g2 g3
  · rw [vu_s]; exact hr
  · rw [vu_n _ _ (by decide)]; exact hT.fr (fun i hi => fr i (by omega) (by omega))
  · intro p hp
    rw [vu_n _ _ (by omega)]; exact (hQ p hp).fr (fun i hi => fr i (by omega) (by omega))
  · rw [vu_s]; exact (hW.fr (fun p hp => (hQ p hp).1) (fun i hi => fr i (by omega) (by omega))).fc (fun g hg => w1 7 g (by omega) (by omega) (by omega) (by omega)) (fun g hg => w1 8 g (by omega) (by omega) (by omega) (by omega))
  · rw [vu_n _ _ (by decide)]; exact hG.fr (fun i hi => fr i (by omega) (by omega))
  · rw [vu_n _ _ (by decide)]; exact hN
  · rw [vu_n _ _ (by decide)]; exact hO.fr (fun i hi => fr i (by omega) (by omega))
  · rw [vu_s]; exact (hA.fr (fun i hi => fr i (by omega) (by omega))).fc (fun a g ha hg => w1 a g (by omega) (by omega) (by omega) (by omega))
theorem zputR_o (c : Nat → Int32) (f a j : Nat) (q t : Int32) (hf : f < 24) (hj : j < 24) (h3 : a ≠ 13) (h4 : a ≠ 14) : zputR c f q t (a * 24 + j) = c (a * 24 + j) := by
  unfold zputR
  rw [pk_un (by omega), pk_un (by omega)]
theorem zdropR_o (c : Nat → Int32) (f a j : Nat) (hf : f < 24) (hj : j < 24) (h : j ≠ f ∨ (a ≠ 13 ∧ a ≠ 14)) : zdropR c f (a * 24 + j) = c (a * 24 + j) := by
  unfold zdropR
  rw [pk_un (by omega), pk_un (by omega)]
theorem zdropR_13 (c : Nat → Int32) (f : Nat) : zdropR c f (13 * 24 + f) = -1 := by
  unfold zdropR
  rw [pk_un (by omega), pk_us]
theorem zdropR_14 (c : Nat → Int32) (f : Nat) : zdropR c f (14 * 24 + f) = -1 := by
  unfold zdropR
  rw [pk_us]
/-- what putRule leaves as it was, and what its rules are -/
theorem zruled.facts {c c1 : Nat → Int32} {n f q : Nat} {t r : Int32} (hn : n ≤ 24) (hf : f < n) (hq : q < 4) (h : zruled c n f (nI q) t r c1) (hr : ∀ g, g < n → zhasR c g = true → ∃ q, q < 4 ∧ c (13 * 24 + g) = nI q) (hu : ∀ g, g < n → zhasR c g = false → c (14 * 24 + g) = -1) : (∀ a j, a < 20 → a ≠ 13 → a ≠ 14 → j < 24 → c1 (a * 24 + j) = c (a * 24 + j)) ∧ (∀ j, n ≤ j → j < 24 → c1 (13 * 24 + j) = c (13 * 24 + j) ∧ c1 (14 * 24 + j) = c (14 * 24 + j)) ∧ (∀ g, g < n → zhasR c1 g = true → ∃ q, q < 4 ∧ c1 (13 * 24 + g) = nI q) ∧ (∀ g, g < n → zhasR c1 g = false → c1 (14 * 24 + g) = -1) := by
  have nq : ¬ nI q = -1 := nI_nm1 (by omega)
  have base : ∀ d : Nat → Int32, (∀ a j, a < 20 → a ≠ 13 → a ≠ 14 → j < 24 → d (a * 24 + j) = c (a * 24 + j)) → (∀ j, n ≤ j → j < 24 → d (13 * 24 + j) = c (13 * 24 + j) ∧ d (14 * 24 + j) = c (14 * 24 + j)) → (∀ g, g < n → zhasR d g = true → ∃ q, q < 4 ∧ d (13 * 24 + g) = nI q) → (∀ g, g < n → zhasR d g = false → d (14 * 24 + g) = -1) → c1 = zputR d f (nI q) t → (∀ a j, a < 20 → a ≠ 13 → a ≠ 14 → j < 24 → c1 (a * 24 + j) = c (a * 24 + j)) ∧ (∀ j, n ≤ j → j < 24 → c1 (13 * 24 + j) = c (13 * 24 + j) ∧ c1 (14 * 24 + j) = c (14 * 24 + j)) ∧ (∀ g, g < n → zhasR c1 g = true → ∃ q, q < 4 ∧ c1 (13 * 24 + g) = nI q) ∧ (∀ g, g < n → zhasR c1 g = false → c1 (14 * 24 + g) = -1) := by
    intro d d1 d2 d3 d4 e
    subst e
    refine ⟨fun a j a1 a2 a3 a4 => ?_, fun j j1 j2 => ⟨?_, ?_⟩, fun g g1 g2 => ?_, fun g g1 g2 => ?_⟩
    · rw [zputR_o _ _ _ _ _ _ (by omega) a4 a2 a3]; exact d1 a j a1 a2 a3 a4
    · rw [zputR_13 _ _ _ _ _ (by omega) j2, if_neg (by omega)]; exact (d2 j j1 j2).1
    · rw [zputR_14 _ _ _ _ _ (by omega) j2, if_neg (by omega)]; exact (d2 j j1 j2).2
    · rw [zputR_13 _ _ _ _ _ (by omega) (by omega)]
      rw [zhasR_put _ _ _ _ _ (by omega) (by omega) nq] at g2
      by_cases e : g = f
      · rw [if_pos e]; exact ⟨q, hq, rfl⟩
      · rw [if_neg e]
        rw [if_neg e] at g2
        exact d3 g g1 g2
    · rw [zhasR_put _ _ _ _ _ (by omega) (by omega) nq] at g2
      by_cases e : g = f
      · rw [if_pos e] at g2; cases g2
      · rw [if_neg e] at g2
        rw [zputR_14 _ _ _ _ _ (by omega) (by omega), if_neg e]
        exact d4 g g1 g2
  rcases h with ⟨-, -, e⟩ | ⟨-, -, g, -, g1, -, e⟩
  · exact base c (fun _ _ _ _ _ _ => rfl) (fun _ _ _ => ⟨rfl, rfl⟩) hr hu e
  · refine base (zdropR c g) (fun a j a1 a2 a3 a4 => zdropR_o _ _ _ _ (by omega) a4 (Or.inr ⟨a2, a3⟩)) (fun j j1 j2 => ⟨zdropR_o _ _ _ _ (by omega) j2 (Or.inl (by omega)), zdropR_o _ _ _ _ (by omega) j2 (Or.inl (by omega))⟩) (fun k k1 k2 => ?_) (fun k k1 k2 => ?_) e
    · rw [zhasR_drop _ _ _ (by omega) (by omega)] at k2
      by_cases z : k = g
      · rw [if_pos z] at k2; cases k2
      · rw [if_neg z] at k2
        rw [zdropR_o _ _ _ _ (by omega) (by omega) (Or.inl z)]; exact hr k k1 k2
    · rw [zhasR_drop _ _ _ (by omega) (by omega)] at k2
      by_cases z : k = g
      · rw [z]; exact zdropR_14 _ _
      · rw [if_neg z] at k2
        rw [zdropR_o _ _ _ _ (by omega) (by omega) (Or.inl z)]; exact hu k k1 k2
theorem Sim.putRule {cs : Nat → RS} {R R1 : Nat → Int32} {S : Nat → Int64} {n nr1 f q : Nat} {t r : Int32} {w : RS} (h : Sim cs R S) (h0 : (cs 2).1 0 0 = nI n) (h24 : n ≤ 24) (hf : f < n) (hq : q < 4) (w0 : w.1 0 = (cs 2).1 0) (hz : zruled ((cs 2).1 1) n f (nI q) t r (w.1 1)) (hr : rRel n (w.1 1) R1 nr1) (hfr : zframe R R1) : Sim (va_up cs 2 w) R1 S := by
  have hh := h
  obtain ⟨n', nr, m, h0', hK, hF, hR, -⟩ := hh
  have en : n' = n := (nI_eq (by have := hF.2.1; omega) (by omega)).mp (h0'.symm.trans h0)
  subst en
  obtain ⟨z1, z2, z3, z4⟩ := hz.facts h24 hf hq (hR.rng h24) hR.2.2
  refine h.ruled h0 h24 w0 z1 (fun j j1 j2 => ?_) (sR_of hr z3 z4) hfr
  obtain ⟨a, b⟩ := z2 j j1 j2
  rw [a, b]
  exact ⟨hF.2.2.2.2.2.2.2 j 13 j1 j2 (by omega), hF.2.2.2.2.2.2.2 j 14 j1 j2 (by omega)⟩
theorem p_steer {B : Nat} : pX_steer (Rel B) (Rel (B + 30000)) := by
  intro u r x1 x2 h
  replace h := h.up 30000
  have h0 : Rel0 (B + 30000) u (rN r 0 0) := h.2
  have hs : Sim u.2.2.1 (r.1 3) (r.2 4) := h.2.2.1.1
  have hs2 := hs
  obtain ⟨n, nr, m, hn, hK, hF, hR, -⟩ := hs2
  have h24 : n ≤ 24 := hF.2.1
  have h4 : (rN r 0 0).1 3 4 = nI n := hF.1
  unfold wp_X7_steer
  refine q7_isQueue (fun q hq eq => ⟨fun _ => q7_isFlow n hn h24 (fun f hf ef => ⟨fun _ => ?_, fun z => absurd z (by decide)⟩) (fun ho => ⟨fun z => absurd rfl z, fun _ => ?_⟩), fun z => absurd z (by decide)⟩) (fun ho => ⟨fun z => absurd rfl z, fun _ => ?_⟩)
  · subst eq ef
    refine q7_begin h0 (fun u1 l1 n1 o1 hrem => ?_)
    rw [n1, hs.time]
    refine q0_putRule n f hn h24 rfl (by omega) (fun y w w0 wz u2 e2 => ?_)
    unfold wp_X8_steer
    intro r1 f1
    subst f1
    refine q8_isQueue (fun _ _ _ => ⟨fun _ => q8_isFlow n h4 h24 (fun _ _ _ => ⟨fun _ => ?_, fun z => absurd z (by decide)⟩) (fun ho => absurd rfl (ho f hf)), fun z => absurd z (by decide)⟩) (fun ho => absurd rfl (ho q hq))
    refine q8_rem h0 (fun mm v m1 m2 hz => ?_)
    have v3 : v.1 3 = r.1 3 := hz.row.1
    refine q8_steers n nr f h24 ((u.2.2.1 2).1 1) (w.1 1) rfl hf (nI_nm1 (by omega)) (by rw [v3]; exact hR.1) (by rw [v3]; exact wz) (fun R1 nr1 hr1 hfr => ?_)
    rw [v3] at hfr
    unfold wp_X8_tell
    intro r3 d3
    refine ⟨rfl, k_end (hrem mm v m1 m2 hz) l1 e2 (by rw [d3, rN_s]) (fun j hj => by rw [d3, rN_n _ _ (by omega), rI_n _ _ (by omega)]) (fun j hj => by rw [d3, rN_2, rI_2]) ?_⟩
    rw [d3, rN_n _ _ (by decide), rI_s, rN_2, rI_2, hz.row.2]
    exact ⟨hs.putRule hn h24 hf (by omega) w0 wz hr1 hfr, h.2.2.1.2.fr (fun i hi => hfr i (by omega) (by omega)) (fun _ _ => rfl)⟩
  · refine k_refuse 2 (-2) (by decide) (by decide) h0 (fun u1 hu => ?_)
    unfold wp_X8_steer
    intro r1 f1
    subst f1
    exact q8_isQueue (fun _ _ _ => ⟨fun _ => q8_isFlow n h4 h24 (fun f hf e => absurd e (ho f hf)) (fun _ => ⟨fun z => absurd rfl z, fun _ => hu _ (fun r2 hr => ⟨rfl, hr⟩)⟩), fun z => absurd z (by decide)⟩) (fun hno => absurd eq (hno q hq))
  · refine k_refuse 1 (-1) (by decide) (by decide) h0 (fun u1 hu => ?_)
    unfold wp_X8_steer
    intro r1 f1
    subst f1
    exact q8_isQueue (fun q hq e => absurd e (ho q hq)) (fun _ => ⟨fun z => absurd rfl z, fun _ => hu _ (fun r2 hr => ⟨rfl, hr⟩)⟩)
theorem Sim.dropRule {cs : Nat → RS} {R : Nat → Int32} {S : Nat → Int64} {n nr f r : Nat} {w : RS} (h : Sim cs R S) (h0 : (cs 2).1 0 0 = nI n) (h24 : n ≤ 24) (hR : sR n nr ((cs 2).1 1) R) (hf : f < n) (hr : r < nr) (e : R (55 + 3 * r) = nI f) (w0 : w.1 0 = (cs 2).1 0) (w1 : w.1 1 = zdropR ((cs 2).1 1) f) : Sim (va_up cs 2 w) (zdrop8 R r nr) S := by
  have hh := h
  obtain ⟨n', nr', m, h0', hK, hF, -⟩ := hh
  have en : n' = n := (nI_eq (by have := hF.2.1; omega) (by omega)).mp (h0'.symm.trans h0)
  subst en
  refine h.ruled h0 h24 w0 (fun a j a1 a2 a3 a4 => by rw [w1]; exact zdropR_o _ _ _ _ (by omega) a4 (Or.inr ⟨a2, a3⟩)) (fun j j1 j2 => ?_) (sR_of (nr := nr - 1) (by rw [w1]; exact rRel_drop h24 hR.1 hr hf e) (fun k k1 k2 => ?_) (fun k k1 k2 => ?_)) (zframe_drop hR.1.1 (fun _ _ _ => rfl))
  · rw [w1, zdropR_o _ _ 13 _ (by omega) j2 (Or.inl (by omega)), zdropR_o _ _ 14 _ (by omega) j2 (Or.inl (by omega))]
    exact ⟨hF.2.2.2.2.2.2.2 j 13 j1 j2 (by omega), hF.2.2.2.2.2.2.2 j 14 j1 j2 (by omega)⟩
  · rw [w1, zhasR_drop _ _ _ (by omega) (by omega)] at k2
    by_cases z : k = f
    · rw [if_pos z] at k2; cases k2
    · rw [if_neg z] at k2
      rw [w1, zdropR_o _ _ _ _ (by omega) (by omega) (Or.inl z)]; exact hR.rng h24 k k1 k2
  · rw [w1, zhasR_drop _ _ _ (by omega) (by omega)] at k2
    by_cases z : k = f
    · rw [w1, z]; exact zdropR_14 _ _
    · rw [if_neg z] at k2
      rw [w1, zdropR_o _ _ _ _ (by omega) (by omega) (Or.inl z)]; exact hR.2.2 k k1 k2
theorem p_free {B : Nat} : pX_free (Rel B) (Rel (B + 30000)) := by
  intro u r x1 h
  replace h := h.up 30000
  have h0 : Rel0 (B + 30000) u (rN r 0 0) := h.2
  have hs : Sim u.2.2.1 (r.1 3) (r.2 4) := h.2.2.1.1
  have hs2 := hs
  obtain ⟨n, nr, m, hn, hK, hF, hR, -⟩ := hs2
  have h24 : n ≤ 24 := hF.2.1
  have h4 : (rN r 0 0).1 3 4 = nI n := hF.1
  have h5 : (rN r 0 0).1 3 5 = nI nr := hR.1.2.1
  unfold wp_X7_free wp_X7_free_25
  refine q7_isFlow n hn h24 (fun f hf ef => ⟨fun z => absurd z (by decide), fun _ => ?_⟩) (fun ho => ⟨fun _ => ?_, fun z => absurd rfl z⟩)
  · subst ef
    refine q0_get 13 f rfl rfl (by omega) (by omega) (fun u0 e0 => ?_)
    rw [tN_id] at e0
    subst e0
    refine ⟨fun hne => ?_, fun he => ?_⟩
    · have hz : zhasR ((u0.2.2.1 2).1 1) f = true := by simpa [zhasR] using hne
      obtain ⟨⟨r1, r2, r3, r4, r5, r6⟩, r7, r8⟩ := id hR
      obtain ⟨rr, q1, q2⟩ := r5 f hf hz
      obtain ⟨g, g1, g2, g3, g4, g5⟩ := r4 rr q1
      have gf : g = f := (nI_eq (by omega) (by omega)).mp (g2.symm.trans q2)
      subst gf
      refine q7_begin h0 (fun u1 l1 n1 o1 hrem => ?_)
      rw [n1]
      refine q0_get 13 g rfl rfl (by omega) (by omega) (fun u2 e2 => ?_)
      have e2 : u2 = u1 := by rw [e2, ← n1, tN_id]
      subst e2
      rw [n1]
      refine q0_dropRule g rfl (by omega) (fun w w0 w1 u3 e3 => ?_)
      unfold wp_X8_free wp_X8_free_22
      intro a f1
      subst f1
      refine q8_isFlow n h4 h24 (fun _ _ _ => ⟨fun z => absurd z (by decide), fun _ => ?_⟩) (fun ho => absurd rfl (ho g hf))
      refine q8_ruleOf nr h5 r1 (fun r' p1 p2 => ⟨fun _ => ?_, fun z => absurd z (nI_nm1 (by omega))⟩) (fun hno => absurd q2 (hno rr q1))
      refine q8_rem h0 (fun mm v m1 m2 hzr => q8_ruleAt r' rfl ?_)
      have v3 : v.1 3 = r.1 3 := hzr.row.1
      rw [nI_addl, zn_nI (by omega), v3]
      obtain ⟨k, k1, k2, k3, k4, k5⟩ := r4 r' p1
      have kg : k = g := (nI_eq (by omega) (by omega)).mp (k2.symm.trans p2)
      subst kg
      refine ⟨in_nI (by omega) (by decide), fun y ey => ?_⟩
      refine q8_dropRule r' nr rfl p1 r1 (by rw [v3]; exact r2) ?_
      unfold wp_X8_tell
      intro r3' d3
      refine ⟨by rw [ey, k4], k_end (hrem mm v m1 m2 hzr) l1 e3 (by rw [d3, rN_s]) (fun j hj => by rw [d3, rN_n _ _ (by omega), rI_n _ _ (by omega)]) (fun j hj => by rw [d3, rN_2, rI_2]) ?_⟩
      rw [d3, rN_n _ _ (by decide), rI_s, rN_2, rI_2, hzr.row.2, v3]
      exact ⟨hs.dropRule hn h24 hR hf p1 p2 w0 w1, h.2.2.1.2.fr (fun i hi => zframe_drop (R := r.1 3) r1 (fun _ _ _ => rfl) i (by omega) (by omega)) (fun _ _ => rfl)⟩
    · refine k_refuse 2 (-2) (by decide) (by decide) h0 (fun u1 hu => ?_)
      have hz : zhasR ((u0.2.2.1 2).1 1) f = false := by simpa [zhasR] using he
      unfold wp_X8_free wp_X8_free_22
      intro a f1
      subst f1
      refine q8_isFlow n h4 h24 (fun _ _ _ => ⟨fun z => absurd z (by decide), fun _ => ?_⟩) (fun ho => absurd rfl (ho f hf))
      refine q8_ruleOf nr h5 hR.1.1 (fun r' p1 p2 => ?_) (fun _ => ⟨fun z => absurd rfl z, fun _ => hu _ (fun r2 hr => ⟨rfl, hr⟩)⟩)
      obtain ⟨k, k1, k2, k3, k4, k5⟩ := hR.1.2.2.2.1 r' p1
      have kf : k = f := (nI_eq (by omega) (by omega)).mp (k2.symm.trans p2)
      rw [kf, hz] at k3
      cases k3
  · refine k_refuse 2 (-2) (by decide) (by decide) h0 (fun u1 hu => ?_)
    unfold wp_X8_free wp_X8_free_22
    intro a f1
    subst f1
    exact q8_isFlow n h4 h24 (fun f hf e => absurd e (ho f hf)) (fun _ => ⟨fun _ => ⟨fun z => absurd rfl z, fun _ => hu _ (fun r2 hr => ⟨rfl, hr⟩)⟩, fun z => absurd rfl z⟩)
