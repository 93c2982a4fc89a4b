-- the pure side: a packet is taken, both
/-- the reference's run over any state with these rows -/
def zrun (W : RS → (RS → Prop) → Prop) (R : Nat → Int32) (S : Nat → Int64) (o R1 : Nat → Int32) (S1 : Nat → Int64) (o1 : Nat → Int32) : Prop := ∀ (r : RS) (Qb : RS → Prop), r.1 3 = R → r.2 4 = S → (∀ j, j < 72 → r.1 17 j = o j) → (∀ r1, zst r r1 R1 S1 o1 → Qb r1) → W r Qb
/-- behind the packet's own segment: given at once if pressed; one less waits -/
theorem k_press {n nr : Nat} {m : Nat → Nat} {cnt : Nat → Nat → Nat} {i : Nat} {cs g : Nat → RS} {R o : Nat → Int32} {S : Nat → Int64} {f q B : Nat} {x3 : Int32} {Q : Int32 → (Nat → RS) → Prop} {C : (Nat → RS) → Int32 → Int32 → Int32 → Int32 → Prop} (h : SimX n nr m g R S) (hM : Mid n cnt (i + 1) cs g o) (hb : Bd B R S) (hi : i < 16) (hf : f < n) (hq : q < 4) (him : i < m q) (hop : ¬ (cs 4).1 6 f = 0) (hc : 0 < cnt q f) (hlt : ∀ p, p < 4 → cnt p f < 1000) (hQ : ∀ (cs1 g1 : Nat → RS) (R1 o1 : Nat → Int32) (S1 : Nat → Int64) (nr1 : Nat), SimX n nr1 m g1 R1 S1 → Mid n (zless cnt q f) (i + 1) cs1 g1 o1 → Bd (B + 1) R1 S1 → (∀ k, 5 ≤ k → cs1 k = cs k) → zgfr R R1 → zrun (fun r Qb => ((¬ r.1 3 (441 + 140 * q + 4 * i + 3) = 1 → Qb r) ∧ (r.1 3 (441 + 140 * q + 4 * i + 3) = 1 → wp_X8_gives r (nI f) (nI q) Qb))) R S o R1 S1 o1 → C cs1 (nI q) (nI q) x3 (nI (i + 1))) : wp_X5_takeBatch_121 Q C cs (nI q) (nI q) x3 (nI i) (nI f) := by
  have hn24 : n ≤ 24 := h.2.2.1.2.1
  obtain ⟨q1, q2, q3, q4, q5, q6⟩ := h.2.2.2.2.2.1 q hq
  have gq : g (5 + q) = cs (5 + q) := hM.1 _ (by omega) (by omega)
  -- nowTaken
  have fin : ∀ (cs1 g1 : Nat → RS) (R1 o1 : Nat → Int32) (S1 : Nat → Int64) (nr1 : Nat), SimX n nr1 m g1 R1 S1 → Mid n cnt (i + 1) cs1 g1 o1 → Bd (B + 1) R1 S1 → (∀ k, 5 ≤ k → cs1 k = cs k) → zgfr R R1 → zrun (fun r Qb => ((¬ r.1 3 (441 + 140 * q + 4 * i + 3) = 1 → Qb r) ∧ (r.1 3 (441 + 140 * q + 4 * i + 3) = 1 → wp_X8_gives r (nI f) (nI q) Qb))) R S o R1 S1 o1 → wp_X5_takeBatch_139 Q C cs1 (nI q) (nI q) x3 (nI i) (nI f) := by
    intro cs1 g1 R1 o1 S1 nr1 hX1 hM1 hb1 hk hfr hrun
    unfold wp_X5_takeBatch_139
    refine q0_nowTaken f rfl (by omega) (fun w w0 w1 u1 e1 x ex => ?_)
    rw [ex, nI_1]
    refine hQ u1 g1 R1 o1 S1 nr1 hX1 ?_ hb1 (fun k hk5 => by rw [e1, vu_n _ _ (by omega)]; exact hk k hk5) hfr hrun
    obtain ⟨a1, a2, a3, a4, a5, a6, a7, a8, a9⟩ := hM1
    have u12 : u1 2 = w := by rw [e1, vu_s]
    have uo : ∀ k, k ≠ 2 → u1 k = cs1 k := fun k hk => by rw [e1, vu_n _ _ hk]
    refine ⟨fun k k2 k4 => by rw [uo k k2]; exact a1 k k2 k4, ?_, fun a j ha h7 h8 hj => ?_, ?_, ?_, ?_, ?_, ?_, ?_⟩
    · rw [u12, w0]; exact a2
    · rw [u12, w1, a3 a j ha h7 h8 hj]
      split
      · rw [pk_un (by omega), pk_un (by omega)]
      · rw [pk_un (by omega)]
    · rw [uo 4 (by decide)]; exact a4
    · rw [uo 4 (by decide)]; exact a5
    · rw [uo 4 (by decide)]; exact a6
    · rw [uo 4 (by decide)]; exact a7
    · rw [u12, w1]; exact a8.taken hn24 hf hq hc hlt
    · rw [uo 4 (by decide)]; exact a9
  unfold wp_X5_takeBatch_121 wp_X3_at
  rw [zn_nI (by omega), nI_lmul, show nI (4 * i) + 3 = nI (4 * i + 3) from nI_addl _ _, zn_nI (by omega)]
  refine ⟨in_nI hq (by decide), in_nI (by omega) (by decide), fun u1 e1 => ?_⟩
  rw [va_up_id] at e1
  subst e1
  have pr : (u1 (5 + q)).1 8 (4 * i + 3) = R (441 + 140 * q + 4 * i + 3) := by rw [← gq]; exact q4 i 3 him (by omega)
  rw [pr]
  refine ⟨fun z => fin u1 g R o S nr h hM (hb.up 1) (fun _ _ => rfl) (fun _ _ => rfl) (fun r Qb hr hS ho hQb => ⟨fun _ => hQb r ?_, fun y => ?_⟩), fun z => ?_⟩
  · exact ⟨hr, hS, ho, rfl, rfl, fun _ _ _ _ _ => rfl, fun _ _ => rfl⟩
  · rw [hr] at y; exact absurd y z
  · refine k_give h hM hb (by omega) hf hq hop (fun cs1 g1 R1 o1 S1 nr1 hX1 hM1 hb1 _ _ _ _ hk hfr hrun => fin cs1 g1 R1 o1 S1 nr1 hX1 hM1 hb1 hk hfr (fun r Qb hr hS ho hQb => ⟨fun y => ?_, fun _ => hrun r Qb hr hS ho hQb⟩))
    rw [hr] at y; exact absurd z y
theorem nI_le0 {p : Nat} (h : p < 2147483648) : nI p ≤ 0 ↔ p = 0 := by
  constructor
  · intro z
    have := (nI_leI h (by decide)).mp (show nI p ≤ nI 0 from z)
    omega
  · intro z
    rw [z]
    exact Int32.le_refl _
theorem k_join {n nr : Nat} {m : Nat → Nat} {cnt : Nat → Nat → Nat} {i : Nat} {cs g : Nat → RS} {R o : Nat → Int32} {S : Nat → Int64} {f q B : Nat} {x3 : Int32} {Q : Int32 → (Nat → RS) → Prop} {C : (Nat → RS) → Int32 → Int32 → Int32 → Int32 → Prop} (h : SimX n nr m g R S) (hM : Mid n cnt i cs g o) (hb : Bd B R S) (hi : i < 16) (hf : f < n) (hq : q < 4) (him : i < m q) (hpf : R (441 + 140 * q + 4 * i + 0) = nI f) (hc : 0 < cnt q f) (hlt : ∀ p, p < 4 → cnt p f < 1000) (hx : ¬ x3 ≤ nI i) (hQ : ∀ (cs1 g1 : Nat → RS) (R1 o1 : Nat → Int32) (S1 : Nat → Int64) (nr1 : Nat), SimX n nr1 m g1 R1 S1 → Mid n (zless cnt q f) (i + 1) cs1 g1 o1 → Bd (B + 2) R1 S1 → (∀ k, 5 ≤ k → cs1 k = cs k) → zgfr R R1 → zrun (fun r Qb => wp_X8_joins r (nI q) (nI (441 + 140 * q + 4 * i)) Qb) R S o R1 S1 o1 → C cs1 (nI q) (nI q) x3 (nI (i + 1))) : wp_X5_takeBatch_20 Q C cs (nI q) (nI q) x3 (nI i) := by
  have hn24 : n ≤ 24 := h.2.2.1.2.1
  obtain ⟨q1, q2, q3, q4, q5, q6⟩ := h.2.2.2.2.2.1 q hq
  have gq : g (5 + q) = cs (5 + q) := hM.1 _ (by omega) (by omega)
  have g0 : g 0 = cs 0 := hM.1 0 (by decide) (by decide)
  have iq : vp_in (nI q) 4 := in_nI hq (by decide)
  obtain ⟨s, s1, s2⟩ := hb.2.2 q i hq (by omega)
  obtain ⟨p, p1, p2, p3, p4⟩ := hM.2.2.2.2.2.2.2.2 f (by omega)
  have t3 : (cs 0).1 5 3 = R 17 := by rw [← g0]; exact h.2.2.2.2.2.2.2.2.2.1.1 3 (by omega)
  obtain ⟨y, y1, y2, y3⟩ := h.2.2.2.2.2.2.2.2.2.1.2.2.2.2 3 (by omega)
  have y3' : R 17 = nI y := y3
  have y2' : y ≤ 9999 := y2
  have at0 : (cs (5 + q)).1 8 (4 * i + 0) = nI f := by rw [← gq]; exact (q4 i 0 him (by omega)).trans hpf
  have at1 : (cs (5 + q)).1 8 (4 * i + 1) = R (441 + 140 * q + 4 * i + 1) := by rw [← gq]; exact q4 i 1 him (by omega)
  have at2 : (cs (5 + q)).1 8 (4 * i + 2) = nI s := by rw [← gq]; exact (q4 i 2 him (by omega)).trans s2
  -- the segment opened anew, on both sides
  have opened : ∀ (cs0 g0 : Nat → RS) (R0 o0 : Nat → Int32) (S0 : Nat → Int64) (nr0 : Nat), SimX n nr0 m g0 R0 S0 → Mid n cnt i cs0 g0 o0 → Bd (B + 1) R0 S0 → (cs0 4).1 6 f = 0 → (∀ k, 5 ≤ k → cs0 k = cs k) → zgfr R R0 → zrun (fun r Qb => wp_X8_joins r (nI q) (nI (441 + 140 * q + 4 * i)) Qb) R S o R0 S0 o0 ∨ True → (∀ (R1 o1 : Nat → Int32) (S1 : Nat → Int64), zrun (fun r Qb => wp_X8_joins_110 Qb r (nI q) (nI (441 + 140 * q + 4 * i)) (nI f) (nI (3 * f)) 0) R0 S0 o0 R1 S1 o1 → zrun (fun r Qb => wp_X8_joins r (nI q) (nI (441 + 140 * q + 4 * i)) Qb) R S o R1 S1 o1) → wp_X5_takeBatch_108 Q C cs0 (nI q) (nI q) x3 (nI i) (nI f) (R (441 + 140 * q + 4 * i + 1)) (nI s) := by
    intro cs0 g0 R0 o0 S0 nr0 hX0 hM0 hb0 h60 hk0 hfr0 _ hrun0
    unfold wp_X5_takeBatch_108
    refine q4_open f rfl (by omega) (fun s1' hs1 u1 e1 => ?_)
    have hs1' := hs1
    obtain ⟨b4, b5, b6, bo, b2⟩ := hs1'
    obtain ⟨p', p1', p2', p3', p4'⟩ := hM0.2.2.2.2.2.2.2.2 f (by omega)
    have p0 : p' = 0 := by
      rw [h60] at p2'
      exact ((nI_eq (by decide) (by omega)).mp (show nI 0 = nI p' from p2')).symm
    have fpl : R0 (441 + 140 * q + 4 * i + 1) = R (441 + 140 * q + 4 * i + 1) := hfr0 _ (by omega)
    have fsz : R0 (441 + 140 * q + 4 * i + 2) = nI s := by rw [hfr0 _ (by omega)]; exact s2
    have hP : sP n (i + 1) s1' (upd (upd (upd (upd o0 (3 * f) (R (441 + 140 * q + 4 * i + 1))) (3 * f + 1) 0) (3 * f + 1) (0 + nI s)) (3 * f + 2) (o0 (3 * f + 2) + 1)) := by
      intro j hj
      by_cases e : j = f
      · subst e
        refine ⟨1, by omega, by rw [b6, pk_us]; rfl, by rw [pk_us, p3', p0]; rfl, fun _ => ⟨hf, s, by omega, by rw [b5, pk_us], ?_, ?_⟩⟩
        · rw [pk_un (by omega), pk_us, Int32.zero_add]
        · rw [b4, pk_us, pk_un (by omega), pk_un (by omega), pk_un (by omega), pk_us]
      · obtain ⟨b, c1, c2, c3, c4⟩ := hM0.2.2.2.2.2.2.2.2 j hj
        refine ⟨b, by omega, by rw [b6, pk_un e]; exact c2, by rw [pk_un (by omega), pk_un (by omega), pk_un (by omega), pk_un (by omega)]; exact c3, fun z => ?_⟩
        obtain ⟨d1, x, d2, d3, d4, d5⟩ := c4 z
        exact ⟨d1, x, d2, by rw [b5, pk_un e]; exact d3, by rw [pk_un (by omega), pk_un (by omega), pk_un (by omega), pk_un (by omega)]; exact d4, by rw [b4, pk_un e, pk_un (by omega), pk_un (by omega), pk_un (by omega), pk_un (by omega)]; exact d5⟩
    have hM1 := hM0.seg hs1 hP
    rw [← e1] at hM1
    have uo : ∀ k, k ≠ 4 → u1 k = cs0 k := fun k hk => by rw [e1, vu_n _ _ hk]
    refine k_press hX0 hM1 hb0 hi hf hq him (by rw [e1, vu_s, b6, pk_us]; decide) hc hlt (fun cs1 g1 R1 o1 S1 nr1 hX1 hM1 hb1 hk1 hfr1 hrun1 => ?_)
    refine hQ cs1 g1 R1 o1 S1 nr1 hX1 hM1 hb1 (fun k hk => by rw [hk1 k hk, uo k (by omega)]; exact hk0 k hk) (fun j hj => by rw [hfr1 j hj]; exact hfr0 j hj) (hrun0 R1 o1 S1 (fun r Qb hr hS ho hQb => ?_))
    show wp_X8_joins_110 Qb r (nI q) (nI (441 + 140 * q + 4 * i)) (nI f) (nI (3 * f)) 0
    unfold wp_X8_joins_110
    rw [show nI (3 * f) + 1 = nI (3 * f + 1) from nI_addl _ _, show nI (441 + 140 * q + 4 * i) + 1 = nI (441 + 140 * q + 4 * i + 1) from nI_addl _ _, zn_nI (by omega), zn_nI (by omega), zn_nI (by omega)]
    refine ⟨fun z => absurd rfl z, fun _ => ⟨in_nI (by omega) (by decide), in_nI (by omega) (by decide), fun a1 d1 => ⟨in_nI (by omega) (by decide), fun a2 d2 => ?_⟩⟩⟩
    have a2o : ∀ k, k ≠ 17 → a2.1 k = r.1 k := fun k hk => by rw [d2, rI_n _ _ hk, d1, rI_n _ _ hk]
    have a22 : a2.2 = r.2 := by rw [d2, d1]; rfl
    have a217 : ∀ j, j < 72 → a2.1 17 j = upd (upd o0 (3 * f) (R (441 + 140 * q + 4 * i + 1))) (3 * f + 1) 0 j := by
      rw [d2, rI_s, d1, rI_s, hr, fpl]
      exact upd_pt (upd_pt ho rfl) rfl
    refine q8_j140 f q _ (by omega) (by omega) (fun r1 c17 co c2 => ?_)
    have r17 : ∀ j, j < 72 → r1.1 17 j = upd (upd (upd (upd o0 (3 * f) (R (441 + 140 * q + 4 * i + 1))) (3 * f + 1) 0) (3 * f + 1) (0 + nI s)) (3 * f + 2) (o0 (3 * f + 2) + 1) j := by
      rw [c17]
      refine upd_pt (upd_pt a217 ?_) ?_
      · rw [a217 _ (by omega), pk_us, a2o 3 (by decide), hr, fsz]
      · rw [a217 _ (by omega), pk_un (show 3 * f + 2 ≠ 3 * f + 1 by omega), pk_un (show 3 * f + 2 ≠ 3 * f by omega)]
    have r1o : ∀ k, k ≠ 17 → r1.1 k = r.1 k := fun k hk => (co k hk).trans (a2o k hk)
    have r12 : r1.2 = r.2 := c2.trans a22
    have hz := zst.seg r17 r1o r12
    have hh : (¬ r1.1 3 (441 + 140 * q + 4 * i + 3) = 1 → Qb r1) ∧ (r1.1 3 (441 + 140 * q + 4 * i + 3) = 1 → wp_X8_gives r1 (nI f) (nI q) Qb) := hrun1 r1 Qb (by rw [r1o 3 (by decide)]; exact hr) (by rw [r12]; exact hS) r17 (fun r2 hr2 => hQb r2 (hz.trans hr2))
    rw [r1o 3 (by decide)] at hh
    rw [a2o 3 (by decide)]
    exact hh
  unfold wp_X5_takeBatch_20 wp_X3_at
  rw [zn_nI (by omega), nI_lmul, show nI (4 * i) + 0 = nI (4 * i + 0) from nI_addl _ _, show nI (4 * i) + 1 = nI (4 * i + 1) from nI_addl _ _, show nI (4 * i) + 2 = nI (4 * i + 2) from nI_addl _ _, zn_nI (by omega), zn_nI (by omega), zn_nI (by omega)]
  refine ⟨fun z => absurd z hx, fun _ => ⟨iq, in_nI (by omega) (by decide), fun u1 e1 => ?_⟩⟩
  rw [va_up_id] at e1
  subst e1
  refine ⟨iq, in_nI (by omega) (by decide), fun u1 e1 => ?_⟩
  rw [va_up_id] at e1
  subst e1
  refine ⟨iq, in_nI (by omega) (by decide), fun u1 e1 => ?_⟩
  rw [va_up_id] at e1
  subst e1
  rw [at0, at1, at2, t3]
  -- the reference, as far as it fits
  have pre : ∀ (r : RS) (Qb : RS → Prop), r.1 3 = R → (∀ j, j < 72 → r.1 17 j = o j) → ((0 < p ∧ o (3 * f) + o (3 * f + 1) = R (441 + 140 * q + 4 * i + 1) ∧ ¬ R 17 < o (3 * f + 1) + nI s) → wp_X8_joins_85 Qb r (nI q) (nI (441 + 140 * q + 4 * i)) (nI f) (nI (3 * f)) 1) → (¬ (0 < p ∧ o (3 * f) + o (3 * f + 1) = R (441 + 140 * q + 4 * i + 1) ∧ ¬ R 17 < o (3 * f + 1) + nI s) → wp_X8_joins_85 Qb r (nI q) (nI (441 + 140 * q + 4 * i)) (nI f) (nI (3 * f)) 0) → wp_X8_joins r (nI q) (nI (441 + 140 * q + 4 * i)) Qb := by
    intro r Qb hr ho hy hn
    unfold wp_X8_joins wp_X8_joins_84
    have hpf' : r.1 3 (441 + 140 * q + 4 * i) = nI f := by rw [hr]; exact hpf
    rw [show nI (441 + 140 * q + 4 * i) + 1 = nI (441 + 140 * q + 4 * i + 1) from nI_addl _ _, show nI (441 + 140 * q + 4 * i) + 2 = nI (441 + 140 * q + 4 * i + 2) from nI_addl _ _, zn_nI (by omega), zn_nI (by omega), zn_nI (by omega)]
    refine ⟨in_nI (by omega) (by decide), fun a ea b eb => ?_⟩
    rw [hpf'] at ea
    subst ea
    rw [nI_lmul] at eb
    subst eb
    rw [show nI (3 * f) + 1 = nI (3 * f + 1) from nI_addl _ _, show nI (3 * f) + 2 = nI (3 * f + 2) from nI_addl _ _, zn_nI (by omega), zn_nI (by omega), zn_nI (by omega), ho (3 * f) (by omega), ho (3 * f + 1) (by omega), ho (3 * f + 2) (by omega), p3, nI_le0 (by omega), hr, s2]
    refine ⟨in_nI (by omega) (by decide), fun z => hn (fun w => absurd w.1 (by omega)), fun z => ⟨in_nI (by omega) (by decide), in_nI (by omega) (by decide), in_nI (by omega) (by decide), fun z2 => hn (fun w => z2 w.2.1), fun z2 => ⟨in_nI (by omega) (by decide), in_nI (by omega) (by decide), fun z3 => hn (fun w => w.2.2 z3), fun z3 => hy ⟨by omega, z2, z3⟩⟩⟩⟩
  refine q4_fits f rfl (by omega) (fun c1 c2 c3 u1 e1 => ?_) (fun cno u1 e1 => ?_)
  · rw [va_up_id] at e1
    subst e1
    refine ⟨fun z => absurd z (by decide), fun _ => ?_⟩
    have ppos : 0 < p := by
      rw [p2, nI_le0 (by omega)] at c1
      omega
    obtain ⟨-, x, x1, x2, x3', x4⟩ := p4 ppos
    rw [x4, x2, ← x3'] at c2
    rw [x2, ← x3'] at c3
    have bnd : x + s ≤ 9999 := by
      rw [x3', nI_add, y3'] at c3
      rcases Nat.lt_or_ge y (x + s) with w | w
      · exact absurd (nI_lt w (by omega)) c3
      · omega
    refine q4_join f rfl (by omega) (fun s1' hs1 u2 e2 => ?_)
    have hs1' := hs1
    obtain ⟨b4, b5, b6, bo, b2⟩ := hs1'
    have hP : sP n (i + 1) s1' (upd (upd o (3 * f + 1) (o (3 * f + 1) + nI s)) (3 * f + 2) (o (3 * f + 2) + 1)) := by
      intro j hj
      by_cases e : j = f
      · subst e
        refine ⟨p + 1, by omega, by rw [b6, pk_us, p2, nI_1], by rw [pk_us, p3, nI_1], fun _ => ⟨hf, x + s, bnd, by rw [b5, pk_us, x2, nI_add], ?_, ?_⟩⟩
        · rw [pk_un (by omega), pk_us, x3', nI_add]
        · rw [b4, x4, pk_un (by omega), pk_un (by omega)]
      · obtain ⟨b, c1, c2, c3, c4⟩ := hM.2.2.2.2.2.2.2.2 j hj
        refine ⟨b, by omega, by rw [b6, pk_un e]; exact c2, by rw [pk_un (by omega), pk_un (by omega)]; exact c3, fun z => ?_⟩
        obtain ⟨d1, x, d2, d3, d4, d5⟩ := c4 z
        exact ⟨d1, x, d2, by rw [b5, pk_un e]; exact d3, by rw [pk_un (by omega), pk_un (by omega)]; exact d4, by rw [b4, pk_un (by omega), pk_un (by omega)]; exact d5⟩
    have hM1 := hM.seg hs1 hP
    rw [← e2] at hM1
    have uo : ∀ k, k ≠ 4 → u2 k = u1 k := fun k hk => by rw [e2, vu_n _ _ hk]
    refine k_press h hM1 hb hi hf hq him (by rw [e2, vu_s, b6, pk_us, p2, nI_1]; exact nI_ne0 (by omega) (by omega)) hc hlt (fun cs1 g1 R1 o1 S1 nr1 hX1 hM1 hb1 hk1 hfr1 hrun1 => ?_)
    refine hQ cs1 g1 R1 o1 S1 nr1 hX1 hM1 (hb1.up 1) (fun k hk => by rw [hk1 k hk, uo k (by omega)]) hfr1 (fun r Qb hr hS ho hQb => pre r Qb hr ho (fun _ => ?_) (fun w => absurd ⟨ppos, c2, c3⟩ w))
    unfold wp_X8_joins_85 wp_X8_joins_110
    rw [show nI (3 * f) + 2 = nI (3 * f + 2) from nI_addl _ _, zn_nI (by omega)]
    have tail : wp_X8_joins_140 Qb r (nI q) (nI (441 + 140 * q + 4 * i)) (nI f) (nI (3 * f)) := by
      refine q8_j140 f q _ (by omega) (by omega) (fun r1 c17 co c2 => ?_)
      have c17 : ∀ j, j < 72 → r1.1 17 j = upd (upd o (3 * f + 1) (o (3 * f + 1) + nI s)) (3 * f + 2) (o (3 * f + 2) + 1) j := by
        rw [c17]
        exact upd_pt (upd_pt ho (by rw [ho _ (by omega), hr, s2])) (by rw [ho _ (by omega)])
      have hz := zst.seg c17 co c2
      have hh : (¬ r1.1 3 (441 + 140 * q + 4 * i + 3) = 1 → Qb r1) ∧ (r1.1 3 (441 + 140 * q + 4 * i + 3) = 1 → wp_X8_gives r1 (nI f) (nI q) Qb) := hrun1 r1 Qb (by rw [co 3 (by decide)]; exact hr) (by rw [c2]; exact hS) c17 (fun r2 hr2 => hQb r2 (hz.trans hr2))
      rw [co 3 (by decide)] at hh
      exact hh
    refine ⟨in_nI (by omega) (by decide), fun _ => ⟨fun _ => tail, fun w => absurd w (by decide)⟩, fun _ => ⟨fun _ => ⟨fun _ => tail, fun w => absurd w (by decide)⟩, fun w => absurd w (by decide)⟩⟩
  · rw [va_up_id] at e1
    subst e1
    refine ⟨fun _ => ?_, fun z => absurd rfl z⟩
    have nofit : ¬ (0 < p ∧ o (3 * f) + o (3 * f + 1) = R (441 + 140 * q + 4 * i + 1) ∧ ¬ R 17 < o (3 * f + 1) + nI s) := by
      rintro ⟨w1, w2, w3⟩
      obtain ⟨-, x, x1, x2, x3', x4⟩ := p4 w1
      rcases cno with z | z | z
      · rw [p2, nI_le0 (by omega)] at z; omega
      · rw [x4, x2, ← x3'] at z; exact z w2
      · rw [x2, ← x3'] at z; exact w3 z
    refine q4_isOpen f rfl (by omega) (fun c u2 e2 => ?_) (fun c u2 e2 => ?_)
    · rw [va_up_id] at e2
      subst e2
      refine ⟨fun z => absurd z (by decide), fun _ => ?_⟩
      have hop : ¬ (u2 4).1 6 f = 0 := fun z => c (by rw [z]; exact Int32.le_refl _)
      refine k_give h hM hb (by omega) hf hq hop (fun cs1 g1 R1 o1 S1 nr1 hX1 hM1 hb1 h61 _ _ _ hk hfr hrun => ?_)
      refine opened cs1 g1 R1 o1 S1 nr1 hX1 hM1 hb1 (by rw [h61, pk_us]) hk hfr (Or.inr trivial) (fun R2 o2 S2 hrun2 r Qb hr hS ho hQb => pre r Qb hr ho (fun w => absurd w nofit) (fun _ => ?_))
      unfold wp_X8_joins_85
      rw [show nI (3 * f) + 2 = nI (3 * f + 2) from nI_addl _ _, zn_nI (by omega), ho _ (by omega), p3]
      rw [p2] at c
      refine ⟨in_nI (by omega) (by decide), fun w => absurd w c, fun _ => ⟨fun w => absurd rfl w, fun _ => ?_⟩⟩
      exact hrun r _ hr hS ho (fun r1 hr1 => hrun2 r1 Qb hr1.1 hr1.2.1 hr1.2.2.1 (fun r2 hr2 => hQb r2 (hr1.trans hr2)))
    · rw [va_up_id] at e2
      subst e2
      refine ⟨fun _ => ?_, fun z => absurd rfl z⟩
      have p0 : p = 0 := by rw [p2, nI_le0 (by omega)] at c; exact c
      refine opened u2 g R o S nr h hM (hb.up 1) (by rw [p2, p0]; rfl) (fun _ _ => rfl) (fun _ _ => rfl) (Or.inr trivial) (fun R2 o2 S2 hrun2 r Qb hr hS ho hQb => pre r Qb hr ho (fun w => absurd w nofit) (fun _ => ?_))
      unfold wp_X8_joins_85
      rw [show nI (3 * f) + 2 = nI (3 * f + 2) from nI_addl _ _, zn_nI (by omega), ho _ (by omega), p3]
      rw [p2] at c
      exact ⟨in_nI (by omega) (by decide), fun _ => hrun2 r Qb hr hS ho hQb, fun w => absurd c w⟩
