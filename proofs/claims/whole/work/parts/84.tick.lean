-- the pure side: a tick
theorem SimX.later {n nr : Nat} {m : Nat → Nat} {cs : Nat → RS} {R : Nat → Int32} {S : Nat → Int64} {x : Nat} (h : SimX n nr m cs R S) (hx : x ≤ 99999) : SimX n nr m (va_up cs 0 (rN (cs 0) 6 (nI x))) (upd R 6 (nI x)) S := by
  obtain ⟨h0, hK, hF, hR, hT, hQ, hW, hG, hN, hO, hA⟩ := h
  have fr : ∀ i, i ≠ 6 → upd R 6 (nI x) i = R i := fun i hi => pk_un hi
  refine ⟨?_, ?_, ?_, ?_, ?_, ?_, ?_, ?_, ?_, ?_, ?_⟩
  · rw [vu_n _ _ (by decide)]; exact h0
  · rw [vu_n _ _ (by decide)]; exact hK.fr (fun i hi => fr i (by omega))
  · rw [vu_n _ _ (by decide)]; exact hF.fr (fun i hi => fr i (by omega))
  · rw [vu_n _ _ (by decide)]; exact hR.fr (fun i hi => fr i (by omega))
  · rw [vu_n _ _ (by decide)]; exact hT.fr (fun i hi => fr i (by omega))
  · intro p hp
    rw [vu_n _ _ (by omega)]; exact (hQ p hp).fr (fun i hi => fr i (by omega))
  · rw [vu_n _ _ (by decide)]; exact hW.fr (fun p hp => (hQ p hp).1) (fun i hi => fr i (by omega))
  · rw [vu_n _ _ (by decide)]; exact hG.fr (fun i hi => fr i (by omega))
  · rw [vu_n _ _ (by decide)]; exact hN
  · rw [vu_s]
    obtain ⟨o1, o2, o3, o4, o5⟩ := hO
    exact ⟨fun i hi => by rw [rN_n _ _ (by decide), fr _ (by omega)]; exact o1 i hi, by rw [rN_s, pk_us], by rw [rN_n _ _ (by decide), fr _ (by omega)]; exact o3, ⟨x, hx, by rw [pk_us]⟩, fun i hi => by rw [fr _ (by omega)]; exact o5 i hi⟩
  · rw [vu_n _ _ (by decide)]; exact hA.fr (fun i hi => fr i (by omega))
theorem zst.row3 (r : RS) (R1 : Nat → Int32) (h : R1 10 = r.1 3 10) : zst r (rI r 3 R1) R1 (r.2 4) (r.1 17) := by
  refine ⟨rI_s _ _ _, rfl, fun j _ => by rw [rI_n _ _ (by decide)], by rw [rI_n _ _ (by decide)]; rfl, ?_, fun k k1 _ _ _ => rI_n _ _ k1, fun _ _ => rfl⟩
  rw [rI_n _ _ (by decide), rI_s, h]
theorem tdiv2 (a : Int) : (a ≤ 1 → a.tdiv 2 ≤ 0) ∧ (2 ≤ a → 1 ≤ a.tdiv 2) := by
  rcases Int.le_total 0 a with h | h
  · rw [Int.tdiv_eq_ediv_of_nonneg h]
    omega
  · have e : a.tdiv 2 = -((-a).tdiv 2) := by rw [Int.neg_tdiv, Int.neg_neg]
    rw [e, Int.tdiv_eq_ediv_of_nonneg (by omega)]
    omega
theorem zhalf (d : Int32) : zmax 1 (d / 2) = if d ≤ 1 then 1 else d / 2 := by
  rw [zmax_le]
  have e : (d / 2).toInt = d.toInt.tdiv 2 := by
    rw [Int32.toInt_div_of_ne_right d 2 (by decide)]
    rfl
  have e1 : (1 : Int32).toInt = 1 := by decide
  have e2 := tdiv2 d.toInt
  by_cases h : d ≤ 1
  · rw [if_pos h, if_pos]
    rw [Int32.le_iff_toInt_le, e1] at h ⊢
    rw [e]
    omega
  · rw [if_neg h]
    by_cases h2 : d / 2 ≤ 1
    · rw [if_pos h2]
      apply Int32.toInt_inj.mp
      rw [Int32.le_iff_toInt_le, e1] at h h2
      rw [e1]
      rw [e] at h2 ⊢
      omega
    · rw [if_neg h2]
theorem q3_isDue {u : RS} {x1 x2 x3 : Int32} {Q : Int32 → RS → Prop} {c d p s : Int32} (hc : u.1 0 0 = c) (hd : u.1 3 0 = d) (hp : u.1 6 0 = p) (hs : u.1 4 0 = s) (h1 : ¬ c ≤ 0 → (x2 ≤ c ∨ p < x3 ∨ ¬ x1 - s < d) → Q 1 u) (h0 : (c ≤ 0 ∨ (¬ x2 ≤ c ∧ ¬ p < x3 ∧ x1 - s < d)) → Q 0 u) : wp_X3_isDue u x1 x2 x3 Q := by
  unfold wp_X3_isDue wp_X3_isDue_40 wp_X3_isDue_36 wp_X3_isDue_41
  rw [hc, hd, hp, hs]
  exact ⟨fun a => ⟨Or.inl rfl, h0 (Or.inl a)⟩, fun a => ⟨fun b => ⟨Or.inr rfl, h1 a (Or.inl b)⟩, fun b => ⟨fun e => ⟨Or.inr rfl, h1 a (Or.inr (Or.inl e))⟩, fun e => ⟨fun f => ⟨Or.inl rfl, h0 (Or.inr ⟨b, e, f⟩)⟩, fun f => ⟨Or.inr rfl, h1 a (Or.inr (Or.inr f))⟩⟩⟩⟩⟩
theorem Bd.frq {B : Nat} {R R1 : Nat → Int32} {S : Nat → Int64} (h : Bd B R S) (e : ∀ e, e < 16 → R1 (39 + e) = R (39 + e)) (f : ∀ q i, q < 4 → i < 32 → R1 (441 + 140 * q + 4 * i + 2) = R (441 + 140 * q + 4 * i + 2)) : Bd B R1 S := by
  obtain ⟨h1, h2, h3⟩ := h
  exact ⟨fun a ha => by rw [e a ha]; exact h1 a ha, h2, fun q i hq hi => by rw [f q i hq hi]; exact h3 q i hq hi⟩
/-- what a tick leaves as it was -/
def zkfr (R R1 : Nat → Int32) : Prop := ∀ j, (j < 5 ∨ j = 6 ∨ (14 ≤ j ∧ j < 55)) → R1 j = R j
theorem k_tq {n nr : Nat} {m : Nat → Nat} {cs : Nat → RS} {R : Nat → Int32} {S : Nat → Int64} {q B : Nat} {Q : (Nat → RS) → Prop} {C : (Nat → RS) → Int32 → Prop} (h : SimX n nr m cs R S) (hb : Bd B R S) (hq : q < 4) (hC : ∀ (cs1 : Nat → RS) (R1 : Nat → Int32) (S1 : Nat → Int64) (nr1 : Nat) (m1 : Nat → Nat), SimX n nr1 m1 cs1 R1 S1 → Bd (B + 56) R1 S1 → zkfr R R1 → (∀ (r : RS) (Qb : RS → Prop) (C8 : RS → Int32 → Prop), r.1 3 = R → r.2 4 = S → (∀ r1 o1, zst r r1 R1 S1 o1 → C8 r1 (nI (q + 1))) → wp_X8_ticks_66 Qb C8 r (nI q)) → C cs1 (nI (q + 1))) : wp_X5_passTick_29 Q C cs (nI q) := by
  have iq : vp_in (nI q) 4 := in_nI hq (by decide)
  have n4 : ¬ (4 : Int32) ≤ nI q := fun z => absurd ((nI_leI (a := 4) (by omega) (by omega)).mp z) (by omega)
  obtain ⟨q1, q2, q3, -⟩ := h.2.2.2.2.2.1 q hq
  have o6 : (cs (5 + q)).1 6 0 = R (433 + 140 * q + 6) := q3 6 (by omega)
  have o7 : (cs (5 + q)).1 7 0 = R (433 + 140 * q + 7) := q3 7 (by omega)
  obtain ⟨P, eP⟩ : ∃ P, P = R (433 + 140 * q + 6) + ((16 * R (433 + 140 * q + 7)) - R (433 + 140 * q + 6)) / 8 := ⟨_, rfl⟩
  obtain ⟨R2, eR⟩ : ∃ R2, R2 = upd (upd R (433 + 140 * q + 6) P) (433 + 140 * q + 7) 0 := ⟨_, rfl⟩
  have r2o : ∀ j, j ≠ 433 + 140 * q + 6 → j ≠ 433 + 140 * q + 7 → R2 j = R j := fun j j1 j2 => by rw [eR, pk_un j2, pk_un j1]
  have r26 : R2 (433 + 140 * q + 6) = P := by rw [eR, pk_un (by omega), pk_us]
  have b2 : Bd B R2 S := hb.frq (fun i hi => r2o _ (by omega) (by omega)) (fun p i hp hi => r2o _ (by omega) (by omega))
  have k2 : zkfr R R2 := fun j hj => r2o j (by omega) (by omega)
  have hXa := (h.qfld (q := q) (k := 6) (x := P) hq (by omega) (by omega) (by omega)).qfld (q := q) (k := 7) (x := 0) hq (by omega) (by omega) (by omega)
  rw [vu_s, va_up_up, ← eR] at hXa
  have head : ∀ (r : RS) (Qb : RS → Prop) (C8 : RS → Int32 → Prop), r.1 3 = R → ((R2 (433 + 140 * q) ≤ 0 → wp_X8_ticks_199 Qb C8 (rI r 3 R2) (nI q)) ∧ (¬ R2 (433 + 140 * q) ≤ 0 → ((R2 15 ≤ R2 (433 + 140 * q) → wp_X8_ticks_194 Qb C8 (rI r 3 R2) (nI q)) ∧ (¬ R2 15 ≤ R2 (433 + 140 * q) → ((P < R2 21 → wp_X8_ticks_194 Qb C8 (rI r 3 R2) (nI q)) ∧ (¬ P < R2 21 → ((R2 6 - R2 (433 + 140 * q + 2) < R2 (433 + 140 * q + 1) → wp_X8_ticks_199 Qb C8 (rI r 3 R2) (nI q)) ∧ (¬ R2 6 - R2 (433 + 140 * q + 2) < R2 (433 + 140 * q + 1) → wp_X8_ticks_194 Qb C8 (rI r 3 R2) (nI q))))))))) → wp_X8_ticks_66 Qb C8 r (nI q) := by
    intro r Qb C8 hr ⟨w1, w2⟩
    unfold wp_X8_ticks_66
    refine ⟨fun z => absurd z n4, fun _ => q8_queueAt q rfl ?_⟩
    rw [show nI (433 + 140 * q) + 6 = nI (433 + 140 * q + 6) from nI_addl _ _, show nI (433 + 140 * q) + 7 = nI (433 + 140 * q + 7) from nI_addl _ _, show nI (433 + 140 * q) + 2 = nI (433 + 140 * q + 2) from nI_addl _ _, show nI (433 + 140 * q) + 1 = nI (433 + 140 * q + 1) from nI_addl _ _, zn_nI (by omega), zn_nI (by omega), zn_nI (by omega), zn_nI (by omega), zn_nI (by omega), hr, ← eP]
    refine ⟨in_nI (by omega) (by decide), in_nI (by omega) (by decide), in_nI (by omega) (by decide), in_nI (by omega) (by decide), fun a1 d1 => ⟨in_nI (by omega) (by decide), fun a2 d2 => ?_⟩⟩
    have e2 : a2 = rI r 3 R2 := by rw [d2, d1, rI_rI, rI_s, eR]
    rw [e2, rI_s, r26]
    exact ⟨in_nI (by omega) (by decide), w1, fun z => ⟨in_nI (by omega) (by decide), (w2 z).1, fun z1 => ⟨in_nI (by omega) (by decide), ((w2 z).2 z1).1, fun z2 => ⟨in_nI (by omega) (by decide), in_nI (by omega) (by decide), (((w2 z).2 z1).2 z2)⟩⟩⟩⟩
  have r210 : ∀ r : RS, r.1 3 = R → zst r (rI r 3 R2) R2 (r.2 4) (r.1 17) := fun r hr => zst.row3 r R2 (by rw [hr]; exact r2o 10 (by omega) (by omega))
  unfold wp_X5_passTick_29
  refine ⟨fun z => absurd z n4, fun _ => ⟨iq, iq, ?_⟩⟩
  rw [zn_nI (by omega)]
  unfold wp_X3_keepPace
  intro v1 d1 v2 d2 u1 e1
  have eu : u1 = va_up cs (5 + q) (rN (rN (cs (5 + q)) 6 P) 7 0) := by rw [e1, d2, d1, o6, o7, eP]
  have hXu : SimX n nr m u1 R2 S := by rw [eu]; exact hXa
  clear hXa e1 d1 d2 v1 v2
  obtain ⟨w1, w2, w3, -⟩ := hXu.2.2.2.2.2.1 q hq
  have hOo := hXu.2.2.2.2.2.2.2.2.2.1
  refine ⟨iq, iq, ?_⟩
  rw [hOo.2.1, hOo.1 1 (by omega), hOo.1 7 (by omega)]
  refine q3_isDue (c := R2 (433 + 140 * q)) (d := R2 (433 + 140 * q + 1)) (p := P) (s := R2 (433 + 140 * q + 2)) (w3 0 (by omega)) (w3 1 (by omega)) ((w3 6 (by omega)).trans r26) (w3 2 (by omega)) (fun c0 c1 u2 e2 => ⟨fun z => absurd z (by decide), fun _ => ?_⟩) (fun c1 u2 e2 => ⟨fun _ => ?_, fun z => absurd rfl z⟩)
  · rw [va_up_id] at e2
    subst e2
    refine k_takes hXu b2 hq (fun cs3 R3 S3 nr3 hX3 hb3 hfr3 hrun3 => ⟨iq, iq, ?_⟩)
    obtain ⟨y1, y2, y3, -⟩ := hX3.2.2.2.2.2.1 q hq
    have hO3 := hX3.2.2.2.2.2.2.2.2.2.1
    have o3 : (cs3 (5 + q)).1 3 0 = R3 (433 + 140 * q + 1) := y3 1 (by omega)
    rw [hO3.1 1 (by omega)]
    have k3 : zkfr R R3 := fun j hj => by rw [hfr3 j (by omega), k2 j hj]
    have calls : ∀ (r : RS) (Qb : RS → Prop) (C8 : RS → Int32 → Prop), r.1 3 = R → r.2 4 = S → (∀ r1 o1, zst r r1 R3 S3 o1 → ((nI (min 16 (m q)) < R3 15 → ((2 < nI (min 16 (m q)) → C8 r1 (nI (q + 1))) ∧ (¬ 2 < nI (min 16 (m q)) → C8 (rI r1 3 (upd R3 (433 + 140 * q + 1) (zmax 1 (R3 (433 + 140 * q + 1) / 2)))) (nI (q + 1))))) ∧ (¬ nI (min 16 (m q)) < R3 15 → C8 (rI r1 3 (upd R3 (433 + 140 * q + 1) (zmin 16 (2 * R3 (433 + 140 * q + 1))))) (nI (q + 1))))) → wp_X8_ticks_66 Qb C8 r (nI q) := by
      intro r Qb C8 hr hS hc
      have t194 : wp_X8_ticks_194 Qb C8 (rI r 3 R2) (nI q) := by
        unfold wp_X8_ticks_194 wp_X8_calls wp_X8_calls_79 wp_X8_calls_78 wp_X8_calls_79 wp_X8_ticks_199
        refine hrun3 (rI r 3 R2) _ (rI_s _ _ _) hS (fun r1 o1 hst => q8_queueAt q rfl (fun x ex => ?_))
        rw [show nI (433 + 140 * q) + 1 = nI (433 + 140 * q + 1) from nI_addl _ _] at ex
        subst ex
        rw [zn_nI (by omega), hst.1]
        obtain ⟨c1, c2⟩ := hc r1 o1 ((r210 r hr).trans hst)
        have nx : ∀ (u : RS) (x : Int32), C8 u (nI (q + 1)) → x = nI q + 1 → C8 u x := fun u x hu ex => by rw [ex, nI_1]; exact hu
        rw [zhalf] at c1
        refine ⟨fun z => ⟨fun z1 x ex => nx _ _ ((c1 z).1 z1) ex, fun z1 => ⟨in_nI (by omega) (by decide), fun z2 => ⟨in_nI (by omega) (by decide), fun u e x ex => ?_⟩, fun z2 => ⟨in_nI (by omega) (by decide), in_nI (by omega) (by decide), fun u e x ex => ?_⟩⟩⟩, fun z => ⟨in_nI (by omega) (by decide), q8_lesser ⟨in_nI (by omega) (by decide), fun u e x ex => ?_⟩⟩⟩
        · have := (c1 z).2 z1
          rw [if_pos z2] at this
          exact nx _ _ (by rw [e]; exact this) ex
        · have := (c1 z).2 z1
          rw [if_neg z2] at this
          exact nx _ _ (by rw [e]; exact this) ex
        · exact nx _ _ (by rw [e]; exact c2 z) ex
      refine head r Qb C8 hr ⟨fun z => absurd z c0, fun _ => ⟨fun _ => t194, fun a1 => ⟨fun _ => t194, fun a2 => ⟨fun a3 => ?_, fun _ => t194⟩⟩⟩⟩
      rcases c1 with z | z | z
      · exact absurd z a1
      · exact absurd z a2
      · exact absurd a3 z
    have fin : ∀ (x : Int32), SimX n nr3 (fun p => if p = q then m q - min 16 (m q) else m p) (va_up cs3 (5 + q) (rN (cs3 (5 + q)) 3 x)) (upd R3 (433 + 140 * q + 1) x) S3 := fun x => hX3.qfld (q := q) (k := 1) (x := x) hq (by omega) (by omega) (by omega)
    have fino : ∀ (x : Int32) j, j ≠ 433 + 140 * q + 1 → upd R3 (433 + 140 * q + 1) x j = R3 j := fun x j hj => pk_un hj
    have finz : ∀ (x : Int32) (r r1 : RS) (o1 : Nat → Int32), zst r r1 R3 S3 o1 → ∃ o2, zst r (rI r1 3 (upd R3 (433 + 140 * q + 1) x)) (upd R3 (433 + 140 * q + 1) x) S3 o2 := fun x r r1 o1 hst => by
      have := hst.trans (zst.row3 r1 (upd R3 (433 + 140 * q + 1) x) (by rw [hst.1]; exact pk_un (by omega)))
      rw [hst.2.1] at this
      exact ⟨_, this⟩
    unfold wp_X3_learn wp_X3_learn_42 wp_X5_passTick_94
    refine ⟨fun z => ⟨fun z1 u3 e3 x ex => ?_, fun z1 o ho u3 e3 x ex => ?_⟩, fun z o ho u3 e3 x ex => ?_⟩
    · rw [va_up_id] at e3
      subst e3
      rw [nI_1] at ex
      subst ex
      exact hC _ R3 S3 nr3 _ hX3 hb3 k3 (fun r Qb C8 hr hS hc => calls r Qb C8 hr hS (fun r1 o1 hst => ⟨fun _ => ⟨fun _ => hc r1 o1 hst, fun y => absurd z1 y⟩, fun y => absurd z y⟩))
    · rw [o3] at ho
      subst ho
      subst e3
      rw [nI_1] at ex
      subst ex
      refine hC _ _ S3 nr3 _ (fin _) (hb3.frq (fun i hi => fino _ _ (by omega)) (fun p i hp hi => fino _ _ (by omega))) (fun j hj => by rw [fino _ j (by omega)]; exact k3 j hj) (fun r Qb C8 hr hS hc => calls r Qb C8 hr hS (fun r1 o1 hst => ⟨fun _ => ⟨fun y => absurd y z1, fun _ => ?_⟩, fun y => absurd z y⟩))
      obtain ⟨o2, h2⟩ := finz _ r r1 o1 hst
      exact hc _ o2 h2
    · rw [o3] at ho
      subst ho
      subst e3
      rw [nI_1] at ex
      subst ex
      refine hC _ _ S3 nr3 _ (fin _) (hb3.frq (fun i hi => fino _ _ (by omega)) (fun p i hp hi => fino _ _ (by omega))) (fun j hj => by rw [fino _ j (by omega)]; exact k3 j hj) (fun r Qb C8 hr hS hc => calls r Qb C8 hr hS (fun r1 o1 hst => ⟨fun y => absurd y z, fun _ => ?_⟩))
      obtain ⟨o2, h2⟩ := finz _ r r1 o1 hst
      exact hc _ o2 h2
  · rw [va_up_id] at e2
    subst e2
    unfold wp_X5_passTick_94
    intro x ex
    rw [nI_1] at ex
    subst ex
    refine hC _ R2 S nr m hXu (b2.up 56) k2 (fun r Qb C8 hr hS hc => head r Qb C8 hr ?_)
    have t199 : wp_X8_ticks_199 Qb C8 (rI r 3 R2) (nI q) := by
      unfold wp_X8_ticks_199
      intro x ex
      rw [ex, nI_1]
      have := r210 r hr
      rw [hS] at this
      exact hc _ _ this
    refine ⟨fun _ => t199, fun a0 => ⟨fun a1 => ?_, fun a1 => ⟨fun a2 => ?_, fun a2 => ⟨fun _ => t199, fun a3 => ?_⟩⟩⟩⟩
    · rcases c1 with z | ⟨z1, z2, z3⟩
      · exact absurd z a0
      · exact absurd a1 z1
    · rcases c1 with z | ⟨z1, z2, z3⟩
      · exact absurd z a0
      · exact absurd a2 z2
    · rcases c1 with z | ⟨z1, z2, z3⟩
      · exact absurd z a0
      · exact absurd z3 a3
theorem k_tick {n nr : Nat} {m : Nat → Nat} {cs : Nat → RS} {R : Nat → Int32} {S : Nat → Int64} {x B : Nat} {Q : (Nat → RS) → Prop} (h : SimX n nr m cs R S) (hb : Bd B R S) (hx : R 6 = nI x) (hx9 : x < 99999) (hQ : ∀ (cs1 : Nat → RS) (R1 : Nat → Int32) (S1 : Nat → Int64) (nr1 : Nat) (m1 : Nat → Nat), SimX n nr1 m1 cs1 R1 S1 → Bd (B + 224) R1 S1 → R1 6 = nI (x + 1) → (∀ j, (j < 5 ∨ (14 ≤ j ∧ j < 55)) → R1 j = R j) → (∀ (r : RS) (Qb : RS → Prop), r.1 3 = R → r.2 4 = S → (∀ r1 o1, zst r r1 R1 S1 o1 → Qb r1) → wp_X8_ticks r Qb) → Q cs1) : wp_X5_passTick cs Q := by
  have h24 : n ≤ 24 := h.2.2.1.2.1
  have hO := h.2.2.2.2.2.2.2.2.2.1
  unfold wp_X5_passTick
  intro u1 e1
  have ct : (cs 0).1 6 0 + 1 = nI (x + 1) := by rw [hO.2.1, hx, nI_1]
  rw [ct] at e1
  have hX1 : SimX n nr m u1 (upd R 6 (nI (x + 1))) S := by rw [e1]; exact h.later (by omega)
  obtain ⟨R1, eR1⟩ : ∃ R1, R1 = upd R 6 (nI (x + 1)) := ⟨_, rfl⟩
  rw [← eR1] at hX1
  have r16 : R1 6 = nI (x + 1) := by rw [eR1, pk_us]
  have r1o : ∀ j, j ≠ 6 → R1 j = R j := fun j hj => by rw [eR1, pk_un hj]
  have hO1 := hX1.2.2.2.2.2.2.2.2.2.1
  have hR1 := hX1.2.2.2.1
  have h6 : nr ≤ 6 := hR1.1.1
  have t16 : (u1 0).1 5 2 = R1 16 := hO1.1 2 (by omega)
  refine q0_dropOldRules n hX1.1 h24 (fun w w0 w1 u2 e2 => ?_)
  rw [hO1.2.1, t16] at w1
  obtain ⟨nr2, hX2, fr2⟩ := hX1.drops (p := zold) (fun f hf z => by
      unfold zhasR
      simp only [Bool.and_eq_true] at z
      exact z.1) (fun T r f hT hr hf a1 a2 a3 a4 => by
      unfold zold
      rw [a3, hT 6 (by omega) (by omega), hT 16 (by omega) (by omega)]
      unfold zhasR at a4
      rw [a4, Bool.true_and]) w0 w1
  rw [← e2] at hX2
  obtain ⟨R2, eR2⟩ : ∃ R2, R2 = zdrs zold nr R1 nr := ⟨_, rfl⟩
  rw [← eR2] at hX2 fr2
  have b2 : Bd B R2 S := hb.frq (fun e he => by rw [fr2 _ (by omega) (by omega), r1o _ (by omega)]) (fun q i hq hi => by rw [fr2 _ (by omega) (by omega), r1o _ (by omega)])
  have run2 : ∀ (r : RS) (Qb : RS → Prop), r.1 3 = R → r.2 4 = S → (∀ r1 o1, zst r r1 R2 S o1 → zit2 (wp_X8_ticks_66 Qb) (4 - 0 + 1) r1 (nI 0)) → wp_X8_ticks r Qb := by
    intro r Qb hr hS hc
    unfold wp_X8_ticks
    intro r1 d1 y ey
    have er1 : r1 = rI r 3 R1 := by rw [d1, hr, hx, nI_1, eR1]
    have r5 : r1.1 3 5 = nI nr := by rw [er1, rI_s]; exact hR1.1.2.1
    rw [r5] at ey
    subst ey
    refine ⟨nr + 1, q8_olds nr nr r1 (Nat.le_refl _) h6 r5 ⟨5, ?_⟩⟩
    have e3 : rI r1 3 (zdrs zold nr (r1.1 3) nr) = rI r 3 R2 := by rw [er1, rI_s, rI_rI, eR2]
    rw [e3]
    have z := zst.row3 r R2 (by rw [hr, fr2 10 (by omega) (by omega), r1o 10 (by omega)])
    rw [hS] at z
    exact hc _ _ z
  refine zl2 (wp_X5_passTick_29 Q) 4 (fun i v y => y = nI i ∧ ∃ (R3 : Nat → Int32) (S3 : Nat → Int64) (nr3 : Nat) (m3 : Nat → Nat), SimX n nr3 m3 v R3 S3 ∧ Bd (B + 56 * i) R3 S3 ∧ zkfr R2 R3 ∧ ∀ (r : RS) (Qb : RS → Prop), r.1 3 = R → r.2 4 = S → (∀ r1 o1, zst r r1 R3 S3 o1 → zit2 (wp_X8_ticks_66 Qb) (4 - i + 1) r1 (nI i)) → wp_X8_ticks r Qb) ?_ 0 (Nat.zero_le _) u2 0 ⟨rfl, R2, S, nr2, m, hX2, b2, fun _ _ => rfl, run2⟩
  rintro i C v y hi ⟨rfl, R3, S3, nr3, m3, hX3, hb3, hk3, hrun3⟩ hC
  by_cases hlt : i < 4
  · refine k_tq hX3 hb3 hlt (fun cs4 R4 S4 nr4 m4 hX4 hb4 hk4 hrun4 => hC _ _ hlt ⟨rfl, R4, S4, nr4, m4, hX4, by rw [show B + 56 * (i + 1) = B + 56 * i + 56 by omega]; exact hb4, fun j hj => by rw [hk4 j hj]; exact hk3 j hj, fun r Qb hr hS hc => hrun3 r Qb hr hS (fun r1 o1 hst => ?_)⟩)
    rw [show 4 - i + 1 = (4 - (i + 1) + 1) + 1 by omega]
    show wp_X8_ticks_66 Qb (zit2 (wp_X8_ticks_66 Qb) (4 - (i + 1) + 1)) r1 (nI i)
    exact hrun4 r1 Qb _ hst.1 hst.2.1 (fun r2 o2 hst2 => hc r2 o2 (hst.trans hst2))
  · have hi4 : i = 4 := by omega
    subst hi4
    unfold wp_X5_passTick_29
    refine ⟨fun _ => ?_, fun z => absurd (Int32.le_refl _) z⟩
    refine hQ v R3 S3 nr3 m3 hX3 hb3 (by rw [hk3 6 (by omega), fr2 6 (by omega) (by omega)]; exact r16) (fun j hj => by rw [hk3 j (by omega), fr2 j (by omega) (by omega), r1o j (by omega)]) (fun r Qb hr hS hc => hrun3 r Qb hr hS (fun r1 o1 hst => ?_))
    show wp_X8_ticks_66 Qb (zit2 (wp_X8_ticks_66 Qb) 0) r1 (nI 4)
    unfold wp_X8_ticks_66
    exact ⟨fun _ => hc r1 o1 hst, fun z => absurd (Int32.le_refl _) z⟩
