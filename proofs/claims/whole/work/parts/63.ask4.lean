-- the pure side: of, count
/-- what is told of a flow -/
def zof (c R : Nat → Int32) (f k : Nat) : Int32 := if k = 5 then nI (zent R f) else if k = 6 then zwish c R f else c (k * 24 + f)
theorem zof_n (c R : Nat → Int32) (f k : Nat) (h5 : k ≠ 5) (h6 : k ≠ 6) : zof c R f k = c (k * 24 + f) := by
  unfold zof
  rw [if_neg h5, if_neg h6]
theorem q8_ruleOf1 {u : RS} {x1 : Int32} {Q : Int32 → RS → Prop} (nr : Nat) (h5 : u.1 3 5 = nI nr) (h6 : nr ≤ 6) (h : ∀ x, ((∃ rr, rr < nr ∧ x = nI rr ∧ u.1 3 (55 + 3 * rr) = x1) ∨ (x = -1 ∧ ∀ rr, rr < nr → ¬ u.1 3 (55 + 3 * rr) = x1)) → Q x u) : wp_X8_ruleOf u x1 Q :=
  q8_ruleOf nr h5 h6 (fun rr q1 q2 => h _ (Or.inl ⟨rr, q1, rfl, q2⟩)) (fun q => h _ (Or.inr ⟨rfl, q⟩))
theorem p_of {B : Nat} : pX_of (Rel B) (Rel (B + 30000)) := by
  intro u r x1 x2 h
  replace h := h.up 30000
  have hs : Sim u.2.2.1 (r.1 3) (r.2 4) := h.2.2.1.1
  obtain ⟨n, nr, m, h0, hK, hF, hR, hT, hQ, hW, -⟩ := hs
  have h24 : n ≤ 24 := hF.2.1
  have h4 : (rN r 0 0).1 3 4 = nI n := hF.1
  have hm : ∀ q, q < 4 → m q ≤ 32 ∧ r.1 3 (433 + 140 * q) = nI (m q) := fun q hq => (hQ q hq).many
  have no : ((∀ f, f < n → ¬ x1 = nI f) ∨ (∀ k, k < 20 → ¬ x2 = nI k)) → wp_X8_of r x1 x2 (fun y r1 => (-1 : Int32) = y ∧ Rel (B + 30000) u r1) := by
    intro ho
    unfold wp_X8_of wp_X8_of_287
    intro r1 f1
    subst f1
    refine q8_isFlow n h4 h24 (fun f hf e => ⟨fun _ => q8_flowAt f e ?_, fun z => absurd z (by decide)⟩) (fun _ => ⟨fun z => absurd rfl z, fun _ => ⟨rfl, Rel_0 h⟩⟩)
    have ho : ∀ k, k < 20 → ¬ x2 = nI k := ho.elim (fun z => absurd e (z f hf)) id
    refine q8_ruleOf nr hR.1.2.1 hR.1.1 (fun rr _ _ => ?_) (fun _ => ?_)
    · refine ⟨fun z => absurd z (ho 5 (by omega)), fun z => absurd z (ho 6 (by omega)), fun z => absurd z (ho 7 (by omega)), fun z => absurd z (ho 8 (by omega)), fun z => absurd z (ho 9 (by omega)), fun z => absurd z (ho 10 (by omega)), fun z => absurd z (ho 11 (by omega)), fun z => absurd z (ho 12 (by omega)), fun z => absurd z (ho 13 (by omega)), fun z => absurd z (ho 14 (by omega)), fun z => absurd z (ho 15 (by omega)), fun z => absurd z (ho 16 (by omega)), fun z => absurd z (ho 17 (by omega)), fun z => absurd z (ho 18 (by omega)), fun z => absurd z (ho 19 (by omega)), fun _ _ _ _ _ _ _ _ _ _ _ _ _ _ _ => q8_in0 4 (by decide) (by decide) (fun k hk e => absurd e (ho k (by omega))) (fun _ => ⟨fun _ => ⟨rfl, Rel_0 h⟩, fun z => absurd rfl z⟩)⟩
    · refine ⟨fun z => absurd z (ho 5 (by omega)), fun z => absurd z (ho 6 (by omega)), fun z => absurd z (ho 7 (by omega)), fun z => absurd z (ho 8 (by omega)), fun z => absurd z (ho 9 (by omega)), fun z => absurd z (ho 10 (by omega)), fun z => absurd z (ho 11 (by omega)), fun z => absurd z (ho 12 (by omega)), fun z => absurd z (ho 13 (by omega)), fun z => absurd z (ho 14 (by omega)), fun z => absurd z (ho 15 (by omega)), fun z => absurd z (ho 16 (by omega)), fun z => absurd z (ho 17 (by omega)), fun z => absurd z (ho 18 (by omega)), fun z => absurd z (ho 19 (by omega)), fun _ _ _ _ _ _ _ _ _ _ _ _ _ _ _ => q8_in0 4 (by decide) (by decide) (fun k hk e => absurd e (ho k (by omega))) (fun _ => ⟨fun _ => ⟨rfl, Rel_0 h⟩, fun z => absurd rfl z⟩)⟩
  have yes : ∀ (f k : Nat), f < n → k < 20 → x1 = nI f → x2 = nI k → wp_X8_of r x1 x2 (fun y r1 => zof ((u.2.2.1 2).1 1) (r.1 3) f k = y ∧ Rel (B + 30000) u r1) := by
    intro f k hf hk e1 e2
    subst e1 e2
    have inj : ∀ j, j < 100 → nI k = nI j → k = j := fun j hj z => (nI_eq (by omega) (by omega)).mp z
    have fld : ∀ a b, a < 14 → b = zrow a → (u.2.2.1 2).1 1 (b * 24 + f) = r.1 3 (73 + 15 * f + a) := fun a b ha hb => by rw [hb]; exact hF.2.2.1 f a hf ha
    obtain ⟨w1, w2⟩ := hW f hf
    obtain ⟨⟨t1, t2, t3, t4, t5, t6⟩, t7, t8⟩ := hR
    unfold wp_X8_of wp_X8_of_189 wp_X8_of_212 wp_X8_of_287
    intro r1 f1
    subst f1
    refine q8_isFlow n h4 h24 (fun _ _ _ => ⟨fun _ => q8_flowAt f rfl ?_, fun z => absurd z (by decide)⟩) (fun ho => absurd rfl (ho f hf))
    refine q8_ruleOf1 nr t2 t1 (fun x106 hx => ?_)
    · skip
      have rul : (x106 = -1 ∧ (u.2.2.1 2).1 1 (13 * 24 + f) = -1 ∧ (u.2.2.1 2).1 1 (14 * 24 + f) = -1) ∨ ∃ rr, rr < nr ∧ x106 = nI rr ∧ r.1 3 (55 + 3 * rr + 1) = (u.2.2.1 2).1 1 (13 * 24 + f) ∧ r.1 3 (55 + 3 * rr + 2) = (u.2.2.1 2).1 1 (14 * 24 + f) := by
        rcases hx with ⟨rr, q1, q2, q3⟩ | ⟨q1, q2⟩
        · obtain ⟨g, g1, g2, g3, g4, g5⟩ := t4 rr q1
          have gf : g = f := (nI_eq (by omega) (by omega)).mp (g2.symm.trans q3)
          subst gf
          exact Or.inr ⟨rr, q1, q2, g4, g5⟩
        · have hz : zhasR ((u.2.2.1 2).1 1) f = false := by
            cases e : zhasR ((u.2.2.1 2).1 1) f with
            | false => rfl
            | true =>
              obtain ⟨rr, r1, r2⟩ := t5 f hf e
              exact absurd r2 (q2 rr r1)
          exact Or.inl ⟨q1, by simpa [zhasR] using hz, t8 f hf hz⟩
      refine ⟨fun z => ?_, fun z => ?_, fun z => ?_, fun z => ?_, fun z => ?_, fun z => ?_, fun z => ?_, fun z => ?_, fun z => ?_, fun z => ?_, fun z => ?_, fun z => ?_, fun z => ?_, fun z => ?_, fun z => ?_, fun z5 z6 z7 z8 z9 z10 z11 z12 z13 z14 z15 z16 z17 z18 z19 => ?_⟩
      · have hk := inj 5 (by omega) z
        subst hk
        exact q8_entryOf f rfl (by omega) ⟨rfl, Rel_0 h⟩
      · have hk := inj 6 (by omega) z
        subst hk
        exact q8_wishOf n nr f ((u.2.2.1 2).1 1) rfl h24 hf ⟨t1, t2, t3, t4, t5, t6⟩ ⟨rfl, Rel_0 h⟩
      · have hk := inj 7 (by omega) z
        subst hk
        exact k_queueOf hm hW hf ⟨rfl, Rel_0 h⟩
      · have hk := inj 8 (by omega) z
        subst hk
        exact q8_packetsOf f m rfl hm ⟨w1, Rel_0 h⟩
      · have hk := inj 9 (by omega) z
        subst hk
        rw [nI_addl, zn_nI (by omega)]
        exact ⟨in_nI (by omega) (by decide), fld 5 9 (by omega) rfl, Rel_0 h⟩
      · have hk := inj 10 (by omega) z
        subst hk
        rw [nI_addl, zn_nI (by omega)]
        exact ⟨in_nI (by omega) (by decide), fld 6 10 (by omega) rfl, Rel_0 h⟩
      · have hk := inj 11 (by omega) z
        subst hk
        rw [nI_addl, zn_nI (by omega)]
        exact ⟨in_nI (by omega) (by decide), fld 7 11 (by omega) rfl, Rel_0 h⟩
      · have hk := inj 12 (by omega) z
        subst hk
        rw [nI_addl, zn_nI (by omega)]
        exact ⟨in_nI (by omega) (by decide), fld 8 12 (by omega) rfl, Rel_0 h⟩
      · have hk := inj 13 (by omega) z
        subst hk
        rcases rul with ⟨q1, q2, q3⟩ | ⟨rr, q1, q2, q3, q4⟩
        · exact ⟨fun w => absurd q1 w, fun _ => ⟨q2, Rel_0 h⟩⟩
        · refine ⟨fun _ => q8_ruleAt rr q2 ?_, fun w => absurd (q2.symm.trans w) (nI_nm1 (by omega))⟩
          rw [nI_addl, zn_nI (by omega)]
          exact ⟨in_nI (by omega) (by decide), q3.symm, Rel_0 h⟩
      · have hk := inj 14 (by omega) z
        subst hk
        rcases rul with ⟨q1, q2, q3⟩ | ⟨rr, q1, q2, q3, q4⟩
        · exact ⟨fun w => absurd q1 w, fun _ => ⟨q3, Rel_0 h⟩⟩
        · refine ⟨fun _ => q8_ruleAt rr q2 ?_, fun w => absurd (q2.symm.trans w) (nI_nm1 (by omega))⟩
          rw [nI_addl, zn_nI (by omega)]
          exact ⟨in_nI (by omega) (by decide), q4.symm, Rel_0 h⟩
      · have hk := inj 15 (by omega) z
        subst hk
        rw [nI_addl, zn_nI (by omega)]
        exact ⟨in_nI (by omega) (by decide), fld 9 15 (by omega) rfl, Rel_0 h⟩
      · have hk := inj 16 (by omega) z
        subst hk
        rw [nI_addl, zn_nI (by omega)]
        exact ⟨in_nI (by omega) (by decide), fld 10 16 (by omega) rfl, Rel_0 h⟩
      · have hk := inj 17 (by omega) z
        subst hk
        rw [nI_addl, zn_nI (by omega)]
        exact ⟨in_nI (by omega) (by decide), fld 11 17 (by omega) rfl, Rel_0 h⟩
      · have hk := inj 18 (by omega) z
        subst hk
        rw [nI_addl, zn_nI (by omega)]
        exact ⟨in_nI (by omega) (by decide), fld 12 18 (by omega) rfl, Rel_0 h⟩
      · have hk := inj 19 (by omega) z
        subst hk
        rw [nI_addl, zn_nI (by omega)]
        exact ⟨in_nI (by omega) (by decide), fld 13 19 (by omega) rfl, Rel_0 h⟩
      · refine q8_in0 4 (by decide) (by decide) (fun j hj e => ⟨fun z => absurd z (by decide), fun _ => ?_⟩) (fun ho => ?_)
        · have hkj := inj j (by omega) e
          subst hkj
          rw [nI_add, zn_nI (by omega)]
          refine ⟨in_nI (by omega) (by decide), ?_, Rel_0 h⟩
          rw [zof_n _ _ _ _ (by omega) (by omega)]
          match k, hj with
          | 0, _ => exact fld 0 0 (by omega) rfl
          | 1, _ => exact fld 1 1 (by omega) rfl
          | 2, _ => exact fld 2 2 (by omega) rfl
          | 3, _ => exact fld 3 3 (by omega) rfl
          | 4, _ => exact fld 4 4 (by omega) rfl
        · exfalso
          rcases Nat.lt_or_ge 4 k with q | q
          · match k, hk, q with
            | 5, _, _ => exact z5 rfl
            | 6, _, _ => exact z6 rfl
            | 7, _, _ => exact z7 rfl
            | 8, _, _ => exact z8 rfl
            | 9, _, _ => exact z9 rfl
            | 10, _, _ => exact z10 rfl
            | 11, _, _ => exact z11 rfl
            | 12, _, _ => exact z12 rfl
            | 13, _, _ => exact z13 rfl
            | 14, _, _ => exact z14 rfl
            | 15, _, _ => exact z15 rfl
            | 16, _, _ => exact z16 rfl
            | 17, _, _ => exact z17 rfl
            | 18, _, _ => exact z18 rfl
            | 19, _, _ => exact z19 rfl
            | k + 20, hk, _ => omega
          · exact ho k q rfl
  unfold wp_X7_of wp_X7_of_18
  refine q7_isFlow n h0 h24 (fun f hf e => ⟨fun z => absurd z (by decide), fun _ => ?_⟩) (fun ho => ⟨fun _ => no (Or.inl ho), fun z => absurd rfl z⟩)
  rcases lt_or_out x2 20 with ⟨k, hk, e2⟩ | ho
  · have y := yes f k hf hk e e2
    refine ⟨fun c => absurd c (by rw [e2]; exact nI_pos (by omega)), fun _ => ⟨fun _ => ⟨fun n5 => ⟨fun n6 => q0_get k f e2 e (by omega) (by omega) (fun u1 e1 => ?_), fun z6 => q5_wishOf n f e hK hF hT hf (fun u1 e1 => ?_)⟩, fun z5 => q5_entryOf n f e hK hF hf (fun u1 e1 => ?_)⟩, fun c => absurd (show x2 < nI 20 by rw [e2]; exact nI_lt hk (by decide)) c⟩⟩
    · rw [tN_id] at e1
      rw [e1]
      rw [zof_n _ _ _ _ (fun z => n5 (by rw [e2, z]; rfl)) (fun z => n6 (by rw [e2, z]; rfl))] at y
      exact y
    · have e1 : u1 = u := e1
      have hk6 : k = 6 := (nI_eq (by omega) (by omega)).mp (e2.symm.trans z6)
      subst hk6
      rw [e1]; exact y
    · have e1 : u1 = u := e1
      have hk5 : k = 5 := (nI_eq (by omega) (by omega)).mp (e2.symm.trans z5)
      subst hk5
      rw [e1]; exact y
  · have key := no (Or.inr ho)
    exact ⟨fun _ => key, fun c => ⟨fun d => absurd (out_ge (by decide) ho c) (Int32.not_le.mpr d), fun _ => key⟩⟩
/-- what is told of all -/
def zcv (r : RS) (k : Nat) : Int32 := if 14 ≤ k ∧ k ≤ 22 then r.1 3 k else [r.1 3 6, r.1 3 4, r.1 3 5, r.1 3 3, zsum (fun q => r.1 3 (433 + 140 * q)) 4, r.1 3 7, r.1 3 8, r.1 3 9, r.1 3 10, r.1 8 0, r.1 2 1, r.1 2 2, r.1 2 4, r.1 2 5, 0, 0, 0, 0, 0, 0, 0, 0, 0, r.1 3 11, r.1 3 12].getD k 0
theorem q8_count {r : RS} {x1 : Int32} {Q : Int32 → RS → Prop} (h1 : ∀ k, k ≤ 24 → x1 = nI k → Q (zcv (rN r 0 0) k) (rN r 0 0)) (h2 : (∀ k, k ≤ 24 → ¬ x1 = nI k) → Q (-1) (rN r 0 0)) : wp_X8_count r x1 Q := by
  unfold wp_X8_count wp_X8_count_235 wp_X8_count_265
  intro r1 f1
  subst f1
  have tm : x1 = nI 0 ∨ ¬ x1 = nI 0 → (∀ k, (k < 14 ∨ 22 < k) → k ≤ 24 → ¬ x1 = nI k) → wp_X8_in x1.toInt64 14 22 (fun r119 => (r119 = 0 → Q (-1) (rN r 0 0)) ∧ (¬ r119 = 0 → vp_in (14 + x1 - 14) 1065 ∧ Q ((rN r 0 0).1 3 (zn (14 + x1 - 14))) (rN r 0 0))) := by
    intro _ ho
    refine q8_inr 14 22 (by decide) (by decide) (by decide) (fun k k1 k2 e => ⟨fun z => absurd z (by decide), fun _ => ?_⟩) (fun hn => ⟨fun _ => h2 (fun k hk e => ?_), fun z => absurd rfl z⟩)
    · have := h1 k (by omega) e
      unfold zcv at this
      rw [if_pos ⟨k1, k2⟩] at this
      rw [e, nI_ladd, nI_subl (by omega), zn_nI (by omega), show 14 + k - 14 = k by omega]
      exact ⟨in_nI (by omega) (by decide), this⟩
    · rcases Nat.lt_or_ge k 14 with q | q
      · exact ho k (Or.inl q) hk e
      · rcases Nat.lt_or_ge 22 k with q2 | q2
        · exact ho k (Or.inr q2) hk e
        · exact hn k q q2 e
  have tin : ∀ j, 14 ≤ j → j ≤ 22 → x1 = nI j → wp_X8_in x1.toInt64 14 22 (fun r119 => (r119 = 0 → Q (-1) (rN r 0 0)) ∧ (¬ r119 = 0 → vp_in (14 + x1 - 14) 1065 ∧ Q ((rN r 0 0).1 3 (zn (14 + x1 - 14))) (rN r 0 0))) := by
    intro j j1 j2 e
    refine tm (Classical.em _) (fun k hk k24 z => ?_)
    have : j = k := (nI_eq (by omega) (by omega)).mp (e.symm.trans z)
    omega
  refine ⟨fun z => h1 0 (by omega) z, fun z => h1 1 (by omega) z, fun z => h1 2 (by omega) z, fun z => h1 3 (by omega) z, fun z => q8_packets (h1 4 (by omega) z), fun z => h1 5 (by omega) z, fun z => h1 6 (by omega) z, fun z => h1 7 (by omega) z, fun z => h1 8 (by omega) z, fun z => h1 9 (by omega) z, fun z => h1 10 (by omega) z, fun z => h1 11 (by omega) z, fun z => h1 12 (by omega) z, fun z => h1 13 (by omega) z, fun z => tin 14 (by omega) (by omega) z, fun z => tin 15 (by omega) (by omega) z, fun z => tin 16 (by omega) (by omega) z, fun z => tin 17 (by omega) (by omega) z, fun z => tin 18 (by omega) (by omega) z, fun z => tin 19 (by omega) (by omega) z, fun z => tin 20 (by omega) (by omega) z, fun z => tin 21 (by omega) (by omega) z, fun z => tin 22 (by omega) (by omega) z, fun z => h1 23 (by omega) z, fun z => h1 24 (by omega) z, fun z0 z1 z2 z3 z4 z5 z6 z7 z8 z9 z10 z11 z12 z13 z14 z15 z16 z17 z18 z19 z20 z21 z22 z23 z24 => tm (Classical.em _) (fun k hk k24 z => ?_)⟩
  match k, hk, k24, z with
  | 0, _, _, z => exact z0 z
  | 1, _, _, z => exact z1 z
  | 2, _, _, z => exact z2 z
  | 3, _, _, z => exact z3 z
  | 4, _, _, z => exact z4 z
  | 5, _, _, z => exact z5 z
  | 6, _, _, z => exact z6 z
  | 7, _, _, z => exact z7 z
  | 8, _, _, z => exact z8 z
  | 9, _, _, z => exact z9 z
  | 10, _, _, z => exact z10 z
  | 11, _, _, z => exact z11 z
  | 12, _, _, z => exact z12 z
  | 13, _, _, z => exact z13 z
  | 14, hk, _, _ => omega
  | 15, hk, _, _ => omega
  | 16, hk, _, _ => omega
  | 17, hk, _, _ => omega
  | 18, hk, _, _ => omega
  | 19, hk, _, _ => omega
  | 20, hk, _, _ => omega
  | 21, hk, _, _ => omega
  | 22, hk, _, _ => omega
  | 23, _, _, z => exact z23 z
  | 24, _, _, z => exact z24 z
  | k + 25, _, hk, _ => omega
theorem q7_count {u : TS} {Q : Int32 → TS → Prop} (k : Nat) (hk : k ≤ 24) (hA : (k < 10 ∨ 23 ≤ k) → wp_X7_count_43 Q u (nI k)) (hB : 10 ≤ k → k ≤ 13 → wp_X7_refusals u (nI k) Q) (hC : 14 ≤ k → k < 23 → Q ((u.2.2.1 0).1 5 (k - 14)) u) : wp_X7_count u (nI k) Q := by
  have c : ∀ j, j < 100 → (nI k < nI j ↔ k < j) := fun j hj => nI_ltI (by omega) (by omega)
  have d : ∀ j, j < 100 → (nI j ≤ nI k ↔ j ≤ k) := fun j hj => nI_leI (by omega) (by omega)
  have b : wp_X7_count_18 Q u (nI k) ∨ (10 ≤ k ∧ k ≤ 13) := by
    rcases Nat.lt_or_ge k 10 with q | q
    · left
      unfold wp_X7_count_18
      exact ⟨fun _ => hA (Or.inl q), fun z => absurd ((c 14 (by omega)).mpr (by omega)) z⟩
    · rcases Nat.lt_or_ge 13 k with q2 | q2
      · left
        unfold wp_X7_count_18
        refine ⟨fun z => absurd ((c 14 (by omega)).mp z) (by omega), fun _ => ⟨fun z => hA (Or.inr ((d 23 (by omega)).mp z)), fun z => ?_⟩⟩
        have h23 : k < 23 := by
          rcases Nat.lt_or_ge k 23 with w | w
          · exact w
          · exact absurd ((d 23 (by omega)).mpr w) z
        rw [nI_subl (by omega), zn_nI (by omega)]
        exact ⟨in_nI (by omega) (by decide), hC (by omega) h23⟩
      · exact Or.inr ⟨q, q2⟩
  unfold wp_X7_count
  rcases b with b | ⟨b1, b2⟩
  · refine ⟨fun _ => b, fun z => ⟨fun _ => b, fun z2 => ?_⟩⟩
    have k1 : ¬ k < 10 := fun w => z ((c 10 (by omega)).mpr w)
    have k2 : ¬ 13 < k := fun w => z2 (show nI 13 < nI k from nI_lt w (by omega))
    exact hB (by omega) (by omega)
  · exact ⟨fun z => absurd ((c 10 (by omega)).mp z) (by omega), fun _ => ⟨fun z => absurd (show nI 13 < nI k from z) (nI_nlt b2 (by omega)), fun _ => hB b1 b2⟩⟩
theorem p_count {B : Nat} : pX_count (Rel B) (Rel (B + 30000)) := by
  intro u r x1 h
  replace h := h.up 30000
  have hs0 : Sim u.2.2.1 (r.1 3) (r.2 4) := h.2.2.1.1
  have hs := hs0
  obtain ⟨n, nr, m, h0, hK, hF, hR, hT, hQ, hW, hG, hN, hO, hA⟩ := hs
  have h24 : n ≤ 24 := hF.2.1
  obtain ⟨mu, tu, m1, t1, m2, m3, -⟩ := h.2.2.2.1
  rcases in_or_out x1 24 with ⟨k, hk, rfl⟩ | ho
  · have inj : ∀ j, j < 100 → nI k = nI j → k = j := fun j hj z => (nI_eq (by omega) (by omega)).mp z
    have fin : ∀ x : Int32, x = zcv r k → wp_X8_count r (nI k) (fun y r1 => x = y ∧ Rel (B + 30000) u r1) := by
      intro x hx
      refine q8_count (fun j hj e => ?_) (fun ho => absurd rfl (ho k hk))
      have := inj j (by omega) e
      subst this
      exact ⟨hx, Rel_0 h⟩
    have fin2 : ∀ x : Int32, x = zcv r k → ∀ u1 : TS, u1 = tN u (va_up u.2.2.1 2 (u.2.2.1 2)) → wp_X8_count r (nI k) (fun y r1 => x = y ∧ Rel (B + 30000) u1 r1) := by
      intro x hx u1 e1
      rw [tN_id] at e1
      rw [e1]; exact fin x hx
    have fin3 : ∀ x : Int32, x = zcv r k → ∀ u1 : TS, u1 = tN u u.2.2.1 → wp_X8_count r (nI k) (fun y r1 => x = y ∧ Rel (B + 30000) u1 r1) := by
      intro x hx u1 e1
      have e1 : u1 = u := e1
      rw [e1]; exact fin x hx
    refine q7_count k hk (fun hr => ?_) (fun k1 k2 => ?_) (fun k1 k2 => ?_)
    · unfold wp_X7_count_43 wp_X7_count_285
      refine ⟨fun z => ?_, fun z => ?_, fun z => ?_, fun z => ?_, fun z => ?_, fun z => ?_, fun z => ?_, fun z => ?_, fun z => ?_, fun z => ?_, fun z => absurd (inj 10 (by omega) z) (by omega), fun z => absurd (inj 11 (by omega) z) (by omega), fun z => absurd (inj 12 (by omega) z) (by omega), fun z => absurd (inj 13 (by omega) z) (by omega), fun z => absurd (inj 14 (by omega) z) (by omega), fun z => absurd (inj 15 (by omega) z) (by omega), fun z => absurd (inj 16 (by omega) z) (by omega), fun z => absurd (inj 17 (by omega) z) (by omega), fun z => absurd (inj 18 (by omega) z) (by omega), fun z => absurd (inj 19 (by omega) z) (by omega), fun z => absurd (inj 20 (by omega) z) (by omega), fun z => absurd (inj 21 (by omega) z) (by omega), fun z => absurd (inj 22 (by omega) z) (by omega), fun z => ?_, fun z => ?_, fun z0 z1 z2 z3 z4 z5 z6 z7 z8 z9 z10 z11 z12 z13 z14 z15 z16 z17 z18 z19 z20 z21 z22 z23 z24 => ?_⟩
      · have hk := inj 0 (by omega) z
        subst hk
        exact fin _ hO.2.1
      · have hk := inj 1 (by omega) z
        subst hk
        exact fin _ (h0.trans hF.1.symm)
      · have hk := inj 2 (by omega) z
        subst hk
        refine q0_ruleNumber n h0 h24 (fin2 _ ?_)
        rw [hR.1.2.2.1]; exact hR.1.2.1.symm
      · have hk := inj 3 (by omega) z
        subst hk
        exact fin _ hK.2.2.1
      · have hk := inj 4 (by omega) z
        subst hk
        exact q5_packetsWaiting (fin3 _ hs0.packets)
      · have hk := inj 5 (by omega) z
        subst hk
        exact q0_sum 10 n rfl (by omega) h0 h24 (fin2 _ hA.1.symm)
      · have hk := inj 6 (by omega) z
        subst hk
        exact q0_sum 11 n rfl (by omega) h0 h24 (fin2 _ hA.2.1.symm)
      · have hk := inj 7 (by omega) z
        subst hk
        exact q0_sum 12 n rfl (by omega) h0 h24 (fin2 _ hA.2.2.1.symm)
      · have hk := inj 8 (by omega) z
        subst hk
        exact q5_callsInAll (fin3 _ hs0.calls)
      · have hk := inj 9 (by omega) z
        subst hk
        exact fin _ (m2.trans m3.symm)
      · have hk := inj 23 (by omega) z
        subst hk
        exact fin _ hO.2.2.1
      · have hk := inj 24 (by omega) z
        subst hk
        exact q0_sum 18 n rfl (by omega) h0 h24 (fin2 _ hA.2.2.2.1.symm)
      · exfalso
        match k, hk with
        | 0, _ => exact z0 rfl
        | 1, _ => exact z1 rfl
        | 2, _ => exact z2 rfl
        | 3, _ => exact z3 rfl
        | 4, _ => exact z4 rfl
        | 5, _ => exact z5 rfl
        | 6, _ => exact z6 rfl
        | 7, _ => exact z7 rfl
        | 8, _ => exact z8 rfl
        | 9, _ => exact z9 rfl
        | 10, _ => exact z10 rfl
        | 11, _ => exact z11 rfl
        | 12, _ => exact z12 rfl
        | 13, _ => exact z13 rfl
        | 14, _ => exact z14 rfl
        | 15, _ => exact z15 rfl
        | 16, _ => exact z16 rfl
        | 17, _ => exact z17 rfl
        | 18, _ => exact z18 rfl
        | 19, _ => exact z19 rfl
        | 20, _ => exact z20 rfl
        | 21, _ => exact z21 rfl
        | 22, _ => exact z22 rfl
        | 23, _ => exact z23 rfl
        | 24, _ => exact z24 rfl
        | k + 25, hk => omega
    · unfold wp_X7_refusals
      have z1 : zn 1 = 1 := by decide
      have z2 : zn 2 = 2 := by decide
      have z4 : zn 4 = 4 := by decide
      have z5 : zn 5 = 5 := by decide
      rw [z1, z2, z4, z5]
      refine ⟨fun z => ?_, fun z => ?_, fun z => ?_, fun a b c => ?_⟩
      · have hk := inj 10 (by omega) z
        subst hk
        exact fin _ (h.2.1 1 (by omega))
      · have hk := inj 11 (by omega) z
        subst hk
        exact fin _ (h.2.1 2 (by omega))
      · have hk := inj 12 (by omega) z
        subst hk
        exact fin _ (h.2.1 4 (by omega))
      · have hk : k = 13 := by
          have q1 : k ≠ 10 := fun z => a (by rw [z]; rfl)
          have q2 : k ≠ 11 := fun z => b (by rw [z]; rfl)
          have q3 : k ≠ 12 := fun z => c (by rw [z]; rfl)
          omega
        subst hk
        exact fin _ (h.2.1 5 (by omega))
    · refine fin _ ?_
      unfold zcv
      rw [if_pos ⟨k1, by omega⟩, hO.1 (k - 14) (by omega), show 14 + (k - 14) = k by omega]
  · have key : wp_X8_count r x1 (fun y r1 => (-1 : Int32) = y ∧ Rel (B + 30000) u r1) := q8_count (fun j hj e => absurd e (ho j hj)) (fun _ => ⟨rfl, Rel_0 h⟩)
    have k43 : wp_X7_count_43 (fun x u1 => wp_X8_count r x1 (fun y r1 => x = y ∧ Rel (B + 30000) u1 r1)) u x1 := by
      unfold wp_X7_count_43 wp_X7_count_285
      exact ⟨fun z => absurd z (ho 0 (by omega)), fun z => absurd z (ho 1 (by omega)), fun z => absurd z (ho 2 (by omega)), fun z => absurd z (ho 3 (by omega)), fun z => absurd z (ho 4 (by omega)), fun z => absurd z (ho 5 (by omega)), fun z => absurd z (ho 6 (by omega)), fun z => absurd z (ho 7 (by omega)), fun z => absurd z (ho 8 (by omega)), fun z => absurd z (ho 9 (by omega)), fun z => absurd z (ho 10 (by omega)), fun z => absurd z (ho 11 (by omega)), fun z => absurd z (ho 12 (by omega)), fun z => absurd z (ho 13 (by omega)), fun z => absurd z (ho 14 (by omega)), fun z => absurd z (ho 15 (by omega)), fun z => absurd z (ho 16 (by omega)), fun z => absurd z (ho 17 (by omega)), fun z => absurd z (ho 18 (by omega)), fun z => absurd z (ho 19 (by omega)), fun z => absurd z (ho 20 (by omega)), fun z => absurd z (ho 21 (by omega)), fun z => absurd z (ho 22 (by omega)), fun z => absurd z (ho 23 (by omega)), fun z => absurd z (ho 24 (by omega)), fun _ _ _ _ _ _ _ _ _ _ _ _ _ _ _ _ _ _ _ _ _ _ _ _ _ => key⟩
    have k18 : wp_X7_count_18 (fun x u1 => wp_X8_count r x1 (fun y r1 => x = y ∧ Rel (B + 30000) u1 r1)) u x1 := by
      unfold wp_X7_count_18
      refine ⟨fun _ => k43, fun c => ⟨fun _ => k43, fun d => ?_⟩⟩
      have c0 : ¬ x1 < 0 := fun z => c (Int32.lt_trans z (by decide))
      exact absurd (Int32.not_le.mp d) (fun z => out_lt (n := 24) (by decide) ho c0 (Int32.lt_trans z (by decide)))
    unfold wp_X7_count
    refine ⟨fun _ => k18, fun c => ⟨fun _ => k18, fun d => ?_⟩⟩
    have c0 : ¬ x1 < 0 := fun z => c (Int32.lt_trans z (by decide))
    exact absurd (Int32.lt_of_le_of_lt (Int32.not_lt.mp d) (show (13 : Int32) < nI (24 + 1) by decide)) (out_lt (n := 24) (by decide) ho c0)
