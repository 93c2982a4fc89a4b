-- the pure side: a packet comes, both; packet
/-- a packet that comes: what both do with it -/
def zcame (R R1 : Nat → Int32) (S : Nat → Int64) (f s : Nat) (x3 v : Int32) : Prop := (v = 4 ∨ ∃ q, q < 4 ∧ v = nI q) ∧ (∀ g, g < 24 → R1 (73 + 15 * g + 5) = if g = f then R (73 + 15 * g + 5) + nI s else R (73 + 15 * g + 5)) ∧ (∀ B, Bd B R S → Bd (B + 1) R1 S) ∧ ∀ r : RS, r.1 3 = R → ∀ Qb : Int32 → RS → Prop, Qb v (rI r 3 R1) → wp_X8_comes r (nI f) (nI s) x3 Qb
theorem k_arrive {n nr : Nat} {m : Nat → Nat} {cs : Nat → RS} {R : Nat → Int32} {S : Nat → Int64} {f s y : Nat} {x3 : Int32} {Q : Int32 → (Nat → RS) → Prop} (h : SimX n nr m cs R S) (hf : f < n) (hy : R (73 + 15 * f + 5) = nI y) (hys : y + s ≤ 1000000000) (hs : s ≤ 1500) (h3 : x3 = 0 ∨ x3 = 1) (hQ : ∀ (v : Int32) (cs1 : Nat → RS) (R1 : Nat → Int32) (m1 : Nat → Nat), SimX n nr m1 cs1 R1 S → zcame R R1 S f s x3 v → Q v cs1) : wp_X5_arrive cs (nI f) (nI s) x3 Q := by
  have hh := h
  obtain ⟨h0, hK, hF, hR, hT, hQu, hW, hG, hN, hO, hA⟩ := hh
  have hn24 : n ≤ 24 := hF.2.1
  have h6 : nr ≤ 6 := hR.1.1
  have he := zent_lt R f
  have hm : ∀ q, q < 4 → m q ≤ 32 ∧ R (433 + 140 * q) = nI (m q) := fun q hq => (hQu q hq).many
  have c9 : (cs 2).1 1 (9 * 24 + f) = R (73 + 15 * f + 5) := hF.2.2.1 f 5 hf (by omega)
  have ct : (cs 0).1 6 0 = R 6 := hO.2.1
  -- the rule
  obtain ⟨ru, hru⟩ : ∃ ru : Option Nat, (ru = none ∧ (cs 2).1 1 (13 * 24 + f) = -1 ∧ ∀ k, k < nr → ¬ R (55 + 3 * k) = nI f) ∨ ∃ k, ru = some k ∧ k < nr ∧ R (55 + 3 * k) = nI f ∧ ¬ (cs 2).1 1 (13 * 24 + f) = -1 := by
    cases e : zhasR ((cs 2).1 1) f with
    | false =>
      refine ⟨none, Or.inl ⟨rfl, by simpa [zhasR] using e, fun k hk ek => ?_⟩⟩
      obtain ⟨g, g1, g2, g3, -⟩ := hR.1.2.2.2.1 k hk
      have gf : g = f := (nI_eq (by omega) (by omega)).mp (g2.symm.trans ek)
      rw [gf, e] at g3
      cases g3
    | true =>
      obtain ⟨k, k1, k2⟩ := hR.1.2.2.2.2.1 f hf e
      exact ⟨some k, Or.inr ⟨k, rfl, k1, k2, by simpa [zhasR] using e⟩⟩
  have hru1 : ∀ r, ru = some r → r < nr ∧ R (55 + 3 * r) = nI f := by
    intro r er
    rcases hru with ⟨e, -⟩ | ⟨k, e, k1, k2, -⟩
    · rw [e] at er; cases er
    · rw [e] at er; cases er; exact ⟨k1, k2⟩
  have hru6 : ∀ r, ru = some r → r < 6 := fun r er => by have := (hru1 r er).1; omega
  have hru2 : (ru = none ∧ ∀ k, k < nr → ¬ R (55 + 3 * k) = nI f) ∨ ∃ k, ru = some k ∧ k < nr ∧ R (55 + 3 * k) = nI f := by
    rcases hru with ⟨e, -, z⟩ | ⟨k, e, k1, k2, -⟩
    · exact Or.inl ⟨e, z⟩
    · exact Or.inr ⟨k, e, k1, k2⟩
  -- the queue
  have wr : ∃ q, q < 4 ∧ zwish ((cs 2).1 1) R f = nI q := by
    unfold zwish
    by_cases z : (cs 2).1 1 (13 * 24 + f) = -1
    · rw [if_pos z]; exact (hT _ he).2.2
    · rw [if_neg z]; exact hR.rng hn24 f hf (by simpa [zhasR] using z)
  obtain ⟨q, hq, hqv⟩ : ∃ q, q < 4 ∧ nI q = if (cs 2).1 1 (7 * 24 + f) = -1 then zwish ((cs 2).1 1) R f else (cs 2).1 1 (7 * 24 + f) := by
    by_cases z : (cs 2).1 1 (7 * 24 + f) = -1
    · obtain ⟨q, q1, q2⟩ := wr
      exact ⟨q, q1, by rw [if_pos z, q2]⟩
    · rcases (hW f hf).2 with ⟨a, -⟩ | ⟨q, q1, q2, -⟩
      · exact absurd a z
      · exact ⟨q, q1, by rw [if_neg z, q2]⟩
  have hwq : (cs 2).1 1 (7 * 24 + f) = -1 ∨ (cs 2).1 1 (7 * 24 + f) = nI q := by
    by_cases z : (cs 2).1 1 (7 * 24 + f) = -1
    · exact Or.inl z
    · rw [if_neg z] at hqv; exact Or.inr hqv.symm
  obtain ⟨st, hst⟩ : ∃ st : Bool, st = true ↔ ¬ nI q = zwish ((cs 2).1 1) R f := ⟨decide (¬ nI q = zwish ((cs 2).1 1) R f), by simp⟩
  -- behind the flow's numbers
  have key3 : ∀ csb : Nat → RS, (csb 2).1 0 = (cs 2).1 0 → (csb 2).1 1 = (if ru.isSome then upd (if st then upd ((cs 2).1 1) (12 * 24 + f) ((cs 2).1 1 (12 * 24 + f) + 1) else (cs 2).1 1) (14 * 24 + f) (R 6) else (if st then upd ((cs 2).1 1) (12 * 24 + f) ((cs 2).1 1 (12 * 24 + f) + 1) else (cs 2).1 1)) → (∀ k, k ≠ 2 → csb k = cs k) → wp_X5_arrive_107 Q csb (nI f) (nI s) x3 (nI (zent R f)) (nI q) := by
    intro csb b0 b1 bo
    unfold wp_X5_arrive_107
    refine q0_add 10 f rfl rfl (by omega) (by omega) (fun w1 w10 w11 u1 e1 => ?_)
    rw [zn_nI (by omega)]
    refine ⟨in_nI he (by decide), in_nI he (by decide), fun u2 e2 => ?_⟩
    have u13 : u1 3 = cs 3 := by rw [e1, vu_n _ _ (by decide)]; exact bo 3 (by decide)
    have u22 : u2 2 = w1 := by rw [e2, vu_n _ _ (by decide), e1, vu_s]
    refine q0_get 9 f rfl rfl (by omega) (by omega) (fun u3 e3 => ?_)
    rw [va_up_id] at e3
    subst e3
    refine q0_put 9 f rfl rfl (by omega) (by omega) (fun w2 w20 w21 u4 e4 => ?_)
    rw [u22] at w20 w21
    have u42 : u4 2 = w2 := by rw [e4, vu_s]
    have u43 : u4 3 = rI (cs 3) 1 (upd ((cs 3).1 1) (zent R f) ((cs 3).1 1 (zent R f) + 1)) := by
      rw [e4, vu_n _ _ (by decide), e2, vu_s, u13]
    have u4o : ∀ k, k ≠ 2 → k ≠ 3 → u4 k = cs k := fun k k2 k3 => by rw [e4, vu_n _ _ k2, e2, vu_n _ _ k3, e1, vu_n _ _ k2]; exact bo k k2
    have c21 : (u4 2).1 1 = zpreC ((cs 2).1 1) f (nI s) (R 6) ru.isSome st := by
      rw [u42, w21, w11, b1]
      rfl
    have hP := h.pre (cs1 := u4) hf he hy hys hru1 (by rw [u42, w20, w10, b0]) c21 u43 u4o
    have pl : w1.1 1 (9 * 24 + f) = R (73 + 15 * f + 5) := by
      rw [w11, pk_un (by omega), b1]
      cases ru.isSome with
      | false =>
        cases st with
        | false => exact c9
        | true =>
          simp only [Bool.false_eq_true, if_false, if_true]
          rw [pk_un (by omega)]; exact c9
      | true =>
        simp only [if_true]
        rw [pk_un (by omega)]
        cases st with
        | false => exact c9
        | true =>
          simp only [if_true]
          rw [pk_un (by omega)]; exact c9
    rw [u22, pl]
    have po : ∀ j, ¬ (73 + 15 * f + 5 ≤ j ∧ j ≤ 73 + 15 * f + 8) → j ≠ 7 → j ≠ 9 → ¬ (39 ≤ j ∧ j < 55) → ¬ (55 ≤ j ∧ j < 73) → zpre R f (nI s) (zent R f) ru st j = R j := fun j j1 j2 j3 j4 j5 => zpre_o hru6 he j1 j2 j3 j4 j5
    have uq : u4 (5 + q) = cs (5 + q) := u4o _ (by omega) (by omega)
    have u0 : u4 0 = cs 0 := u4o 0 (by decide) (by decide)
    obtain ⟨k1, k2, k3, k4, k5, k6⟩ := hQu q hq
    have qm : (cs (5 + q)).1 0 0 = nI (m q) := (k3 0 (by omega)).trans k2
    have t0 : (cs 0).1 5 0 = R 14 := hO.1 0 (by omega)
    have t8 : (cs 0).1 5 8 = R 22 := hO.1 8 (by omega)
    have iq : vp_in (nI q) 4 := in_nI hq (by decide)
    have pm : zpre R f (nI s) (zent R f) ru st (433 + 140 * q) = nI (m q) := by rw [po _ (by omega) (by omega) (by omega) (by omega) (by omega)]; exact k2
    have p14 : zpre R f (nI s) (zent R f) ru st 14 = R 14 := po _ (by omega) (by omega) (by omega) (by omega) (by omega)
    have p22 : zpre R f (nI s) (zent R f) ru st 22 = R 22 := po _ (by omega) (by omega) (by omega) (by omega) (by omega)
    have p6 : zpre R f (nI s) (zent R f) ru st 6 = R 6 := po _ (by omega) (by omega) (by omega) (by omega) (by omega)
    have bdp : ∀ (B : Nat) (R1 : Nat → Int32), Bd B R S → (∀ e, e < 16 → R1 (39 + e) = zpre R f (nI s) (zent R f) ru st (39 + e)) → (∀ p i, p < 4 → i < 32 → R1 (441 + 140 * p + 4 * i + 2) = R (441 + 140 * p + 4 * i + 2) ∨ R1 (441 + 140 * p + 4 * i + 2) = nI s) → Bd (B + 1) R1 S := by
      intro B R1 hb r1 r2
      obtain ⟨b1, ⟨G, P, Y, g1, g2, g3, g4, g5, g6, g7⟩, b3⟩ := hb
      refine ⟨fun e he' => ?_, ⟨G, P, Y, g1, g2, g3, by omega, g5, g6, g7⟩, fun p i hp hi => ?_⟩
      · obtain ⟨x, x1, x2⟩ := b1 e he'
        rw [r1 e he', zpre_h hru6 e he']
        by_cases z : e = zent R f
        · rw [if_pos z, x2, nI_1]; exact ⟨x + 1, by omega, rfl⟩
        · rw [if_neg z]; exact ⟨x, by omega, x2⟩
      · rcases r2 p i hp hi with z | z
        · rw [z]; exact b3 p i hp hi
        · rw [z]; exact ⟨s, hs, rfl⟩
    have ref : ∀ (v : Int32) (R1 : Nat → Int32), (∀ (r : RS) (Qb : Int32 → RS → Prop), r.1 3 = R → Qb v (rI r 3 R1) → wp_X8_comes_165 Qb (rI r 3 (zpre R f (nI s) (zent R f) ru st)) (nI f) (nI s) x3 (nI (73 + 15 * f)) (nI q) (R (73 + 15 * f + 5))) → ∀ r : RS, r.1 3 = R → ∀ Qb : Int32 → RS → Prop, Qb v (rI r 3 R1) → wp_X8_comes r (nI f) (nI s) x3 Qb := by
      intro v R1 hc r hr Qb hQb
      have hc := hc r Qb hr hQb
      subst hr
      exact q8_comes n nr f q m ((cs 2).1 1) ru st hn24 hf hq hm hR.1 hW hqv hst hru2 hc
    rw [zn_nI (by omega), uq, u0, qm, t0]
    refine ⟨iq, iq, fun hl => ⟨iq, ?_⟩, fun hl => ?_⟩
    · have h32 : m q < 32 := by
        obtain ⟨x, x1, x2, x3⟩ := hO.2.2.2.2 0 (by omega)
        have x3' : R 14 = nI x := x3
        have x32 : x ≤ 32 := x2
        rw [x3'] at hl
        have := (nI_ltI (by omega) (by omega)).mp hl
        omega
      rw [ct]
      refine q3_append (m q) qm h32 (fun o1 ho u5 e5 => ?_)
      have u52 : u5 2 = w2 := by rw [e5, vu_n _ _ (by omega)]; exact u42
      rw [u52]
      refine q0_nowWaits f rfl (by omega) (fun w3 w30 w31 u6 e6 => ?_)
      have hA6 : SimX n nr (fun p => if p = q then m q + 1 else m p) u6 (zapp (zpre R f (nI s) (zent R f) ru st) q (m q) (nI f) (R (73 + 15 * f + 5)) (nI s) x3 (R 6)) S := by
        have ap := hP.append (o := o1) (w := w3) (x2 := R (73 + 15 * f + 5)) (x3 := nI s) (x4 := x3) (t := R 6) hq h32 hf h3 ?_ (by rw [uq]; exact ho) (by rw [u42]; exact w30) (by rw [u42]; exact w31)
        · rw [e6, e5]; exact ap
        · rw [c21]
          have : zpreC ((cs 2).1 1) f (nI s) (R 6) ru.isSome st (7 * 24 + f) = (cs 2).1 1 (7 * 24 + f) := by
            unfold zpreC
            rw [pk_un (by omega), pk_un (by omega)]
            cases ru.isSome with
            | false =>
              cases st with
              | false => rfl
              | true =>
                simp only [Bool.false_eq_true, if_false, if_true]
                rw [pk_un (by omega)]
            | true =>
              simp only [if_true]
              rw [pk_un (by omega)]
              cases st with
              | false => rfl
              | true =>
                simp only [if_true]
                rw [pk_un (by omega)]
          rw [this]; exact hwq
      have u6q : (u6 (5 + q)).1 0 0 = nI (m q + 1) := by rw [e6, vu_n _ _ (by omega), e5, vu_s]; exact ho.1
      have u60 : u6 0 = cs 0 := by rw [e6, vu_n _ _ (by decide), e5, vu_n _ _ (by omega)]; exact u0
      have zo : ∀ j, (j < 433 + 140 * q ∨ 573 + 140 * q ≤ j) → zapp (zpre R f (nI s) (zent R f) ru st) q (m q) (nI f) (R (73 + 15 * f + 5)) (nI s) x3 (R 6) j = zpre R f (nI s) (zent R f) ru st j := fun j hj => zapp_o _ _ _ _ _ _ _ _ _ (by omega) (fun _ => by omega) (by omega) (by omega)
      have sizes : ∀ p i, p < 4 → i < 32 → zapp (zpre R f (nI s) (zent R f) ru st) q (m q) (nI f) (R (73 + 15 * f + 5)) (nI s) x3 (R 6) (441 + 140 * p + 4 * i + 2) = R (441 + 140 * p + 4 * i + 2) ∨ zapp (zpre R f (nI s) (zent R f) ru st) q (m q) (nI f) (R (73 + 15 * f + 5)) (nI s) x3 (R 6) (441 + 140 * p + 4 * i + 2) = nI s := by
        intro p i hp hi
        by_cases z : p = q ∧ i = m q
        · obtain ⟨rfl, rfl⟩ := z
          right
          rw [zapp_p _ _ _ _ _ _ _ _ _ (by omega)]
          rfl
        · left
          rw [zapp_o _ _ _ _ _ _ _ _ _ (by omega) (fun _ => by omega) (by omega) (by omega), po _ (by omega) (by omega) (by omega) (by omega) (by omega)]
      rw [u6q, u60, t8]
      unfold wp_X5_arrive_255
      refine ⟨iq, fun hl2 => ?_, fun hl2 => ?_⟩
      · refine hQ _ _ _ _ hA6 ⟨Or.inr ⟨q, hq, rfl⟩, fun g hg => by rw [zo _ (by omega), zpre_n hru6 he], fun B hb => bdp B _ hb (fun e he' => zo _ (by omega)) sizes, ref _ _ (fun r Qb hr hQb => ?_)⟩
        refine q8_c165_app f q (m q) (by omega) hq (by rw [rI_s]; exact pm) h32 (by rw [rI_s, p14]; exact hl) (fun _ => ?_) (fun z => ?_)
        · rw [rI_rI, rI_s, p6]; exact hQb
        · rw [rI_s, p22] at z; exact absurd hl2 z
      · refine q0_add 18 f rfl rfl (by omega) (by omega) (fun w4 w40 w41 u7 e7 => ?_)
        have s7 := hA6.cnt (k := 12) (a := 12) (w := w4) hf (by omega) w40 w41
        rw [← e7] at s7
        have zc : ∀ j, j ≠ 73 + 15 * f + 12 → j ≠ 12 → zsC (zapp (zpre R f (nI s) (zent R f) ru st) q (m q) (nI f) (R (73 + 15 * f + 5)) (nI s) x3 (R 6)) f 12 12 j = zapp (zpre R f (nI s) (zent R f) ru st) q (m q) (nI f) (R (73 + 15 * f + 5)) (nI s) x3 (R 6) j := fun j j1 j2 => zsC_o j1 j2
        refine hQ _ _ (zsC (zapp (zpre R f (nI s) (zent R f) ru st) q (m q) (nI f) (R (73 + 15 * f + 5)) (nI s) x3 (R 6)) f 12 12) _ s7 ⟨Or.inr ⟨q, hq, rfl⟩, fun g hg => by rw [zc _ (by omega) (by omega), zo _ (by omega), zpre_n hru6 he], fun B hb => bdp B _ hb (fun e he' => by rw [zc _ (by omega) (by omega)]; exact zo _ (by omega)) (fun p i hp hi => by rw [zc _ (by omega) (by omega)]; exact sizes p i hp hi), ref _ _ (fun r Qb hr hQb => ?_)⟩
        refine q8_c165_app f q (m q) (by omega) hq (by rw [rI_s]; exact pm) h32 (by rw [rI_s, p14]; exact hl) (fun z => ?_) (fun _ => ?_)
        · rw [rI_s, p22] at z; exact absurd z hl2
        · rw [rI_rI, rI_s, p6]; exact hQb
    · refine q0_add 11 f rfl rfl (by omega) (by omega) (fun w4 w40 w41 u7 e7 => ⟨iq, iq, fun u8 e8 => ?_⟩)
      have s7 := hP.cnt (k := 7) (a := 8) (w := w4) hf (by omega) w40 w41
      rw [← e7] at s7
      have ex : (u7 (5 + q)).1 2 0 = zsC (zpre R f (nI s) (zent R f) ru st) f 7 8 (433 + 140 * q + 5) := (s7.2.2.2.2.2.1 q hq).2.2.1 5 (by omega)
      have s8 := s7.qfld (q := q) (k := 5) (x := (u7 (5 + q)).1 2 0 + 1) hq (by omega) (by omega) (by omega)
      have zc : ∀ j, j ≠ 73 + 15 * f + 7 → j ≠ 8 → j ≠ 433 + 140 * q + 5 → upd (zsC (zpre R f (nI s) (zent R f) ru st) f 7 8) (433 + 140 * q + 5) (zsC (zpre R f (nI s) (zent R f) ru st) f 7 8 (433 + 140 * q + 5) + 1) j = zpre R f (nI s) (zent R f) ru st j := fun j j1 j2 j3 => by rw [pk_un j3]; exact zsC_o j1 j2
      refine hQ _ u8 (upd (zsC (zpre R f (nI s) (zent R f) ru st) f 7 8) (433 + 140 * q + 5) (zsC (zpre R f (nI s) (zent R f) ru st) f 7 8 (433 + 140 * q + 5) + 1)) m (by rw [e8, ← ex]; exact s8) ⟨Or.inl rfl, fun g hg => by rw [zc _ (by omega) (by omega) (by omega), zpre_n hru6 he], fun B hb => bdp B _ hb (fun e he' => zc _ (by omega) (by omega) (by omega)) (fun p i hp hi => Or.inl (by rw [zc _ (by omega) (by omega) (by omega)]; exact po _ (by omega) (by omega) (by omega) (by omega) (by omega))), ref _ _ (fun r Qb hr hQb => ?_)⟩
      exact q8_c165_lost f q (m q) (by omega) hq (by rw [rI_s]; exact pm) (by rw [rI_s, p14]; exact hl) (by rw [rI_rI, rI_s]; exact hQb)
  have k87 : ∀ csb : Nat → RS, (csb 2).1 0 = (cs 2).1 0 → (csb 2).1 1 = (if st then upd ((cs 2).1 1) (12 * 24 + f) ((cs 2).1 1 (12 * 24 + f) + 1) else (cs 2).1 1) → (∀ k, k ≠ 2 → csb k = cs k) → wp_X5_arrive_87 Q csb (nI f) (nI s) x3 (nI (zent R f)) ((cs 2).1 1 (13 * 24 + f)) (nI q) := by
    intro csb b0 b1 bo
    unfold wp_X5_arrive_87
    rcases hru with ⟨e, z, -⟩ | ⟨k, e, -, -, z⟩
    · refine ⟨fun _ => key3 csb b0 ?_ bo, fun y => absurd z y⟩
      rw [e, b1]
      rfl
    · refine ⟨fun y => absurd y z, fun _ => q0_put 14 f rfl rfl (by omega) (by omega) (fun w w0 w1 u e1 => key3 u ?_ ?_ (fun j hj => ?_))⟩
      · rw [e1, vu_s, w0, b0]
      · rw [e1, vu_s, w1, b1, bo 0 (by decide), ct, e]
        rfl
      · rw [e1, vu_n _ _ hj]; exact bo j hj
  have k67 : wp_X5_arrive_67 Q cs (nI f) (nI s) x3 (nI (zent R f)) ((cs 2).1 1 (13 * 24 + f)) (zwish ((cs 2).1 1) R f) (nI q) := by
    unfold wp_X5_arrive_67
    refine ⟨fun z => k87 cs rfl ?_ (fun _ _ => rfl), fun z => q0_add 12 f rfl rfl (by omega) (by omega) (fun w w0 w1 u e1 => k87 u ?_ ?_ (fun j hj => ?_))⟩
    · have : st = false := by
        cases st with
        | false => rfl
        | true => exact absurd z (hst.mp rfl)
      rw [this]
      rfl
    · rw [e1, vu_s, w0]
    · rw [e1, vu_s, w1, hst.mpr z]
      rfl
    · rw [e1, vu_n _ _ hj]
  have k40 : wp_X5_arrive_40 Q cs (nI f) (nI s) x3 (nI (zent R f)) ((cs 2).1 1 (13 * 24 + f)) (zwish ((cs 2).1 1) R f) := by
    unfold wp_X5_arrive_40
    refine q0_get 7 f rfl rfl (by omega) (by omega) (fun u e1 => ?_)
    rw [va_up_id] at e1
    subst e1
    refine ⟨fun z => ?_, fun z => ?_⟩
    · rw [if_neg z] at hqv
      rw [← hqv]; exact k67
    · rw [if_pos z] at hqv
      have k := k67
      rw [← hqv] at k ⊢
      exact k
  unfold wp_X5_arrive
  refine q5_entryOf n f rfl hK hF hf (q0_get 13 f rfl rfl (by omega) (by omega) (fun u e1 => ?_))
  rw [va_up_id] at e1
  subst e1
  refine ⟨fun z => ⟨in_nI he (by decide), ?_⟩, fun z => ?_⟩
  · have ew : zwish ((u 2).1 1) R f = R (23 + zent R f) := by
      unfold zwish
      rw [if_pos z]
    rw [zn_nI (by omega), (hT _ he).1, ← ew]
    exact k40
  · have ew : zwish ((u 2).1 1) R f = (u 2).1 1 (13 * 24 + f) := by
      unfold zwish
      rw [if_neg z]
    have k := k40
    rw [ew] at k
    exact k
theorem q7_isSize {x : Int32} {Q : Int32 → Prop} (h1 : ∀ s, 1 ≤ s → s ≤ 1500 → x = nI s → Q 1) (h2 : (∀ s, 1 ≤ s → s ≤ 1500 → ¬ x = nI s) → Q 0) : wp_X7_isSize x Q := by
  unfold wp_X7_isSize wp_X7_isSize_16 wp_X7_isSize_17
  refine ⟨fun c => ⟨Or.inl rfl, h2 (fun s s1 s2 e => ?_)⟩, fun c => ⟨fun d => ⟨Or.inl rfl, h2 (fun s s1 s2 e => ?_)⟩, fun d => ⟨Or.inr rfl, ?_⟩⟩⟩
  · rw [e] at c; exact absurd (show nI s < nI 1 from c) (nI_nlt s1 (by omega))
  · rw [e] at d; exact absurd (show nI 1500 < nI s from d) (nI_nlt s2 (by decide))
  · rw [Int32.lt_iff_toInt_lt] at c d
    have z1 : (1 : Int32).toInt = 1 := by decide
    have z9 : (1500 : Int32).toInt = 1500 := by decide
    rw [z1] at c
    rw [z9] at d
    obtain ⟨k, hk, ek⟩ := i32_of (x := x) (n := 1500) (by omega) (by omega) (by decide)
    rw [ek, nI_toInt (by omega)] at c
    exact h1 k (by omega) hk ek
theorem Bd.to {B C : Nat} {R : Nat → Int32} {S : Nat → Int64} (h : Bd B R S) (e : B ≤ C) : Bd C R S := by
  have := h.up (C - B)
  rw [show B + (C - B) = C by omega] at this
  exact this
theorem p_packet1 {B : Nat} {u : TS} {r : RS} {x1 x2 x3 : Int32} (h : Rel B u r) (h3 : x3 = 0 ∨ x3 = 1) : wp_X7_packet u x1 x2 x3 (fun x u1 => wp_X8_packet r x1 x2 x3 (fun y r1 => x = y ∧ Rel (B + 30000) u1 r1)) := by
  have bd0 : Bd B (r.1 3) (r.2 4) := h.2.2.1.2
  replace h := h.up 30000
  have h0 : Rel0 (B + 30000) u (rN r 0 0) := h.2
  have hs : Sim u.2.2.1 (r.1 3) (r.2 4) := h.2.2.1.1
  obtain ⟨n, nr, m, hX⟩ := hs.x
  have hn := hX.1
  have hF := hX.2.2.1
  have h24 : n ≤ 24 := hF.2.1
  have h4 : (rN r 0 0).1 3 4 = nI n := hF.1
  unfold wp_X7_packet
  refine q7_isSize (fun s s1 s2 es => ⟨fun _ => q7_isFlow n hn h24 (fun f hf e => ⟨fun _ => ?_, fun z => absurd z (by decide)⟩) (fun ho => ⟨fun z => absurd rfl z, fun _ => ?_⟩), fun z => absurd z (by decide)⟩) (fun ho => ⟨fun z => absurd rfl z, fun _ => ?_⟩)
  · subst es e
    obtain ⟨y, y1, y2⟩ := hF.2.2.2.2.1 f hf
    have cy : (u.2.2.1 2).1 1 (9 * 24 + f) = nI y := (hF.2.2.1 f 5 hf (by omega)).trans y2
    have nx : (rN r 0 0).1 3 (73 + 15 * f + 5) = nI y := y2
    refine q0_get 9 f rfl rfl (by omega) (by omega) (fun u0 e0 => ?_)
    rw [tN_id] at e0
    subst e0
    rw [cy]
    refine ⟨fun c => ?_, fun c => ?_⟩
    · have hle := next_le y1 (by omega) c
      refine q7_begin h0 (fun u1 l1 n1 o1 hrem => ?_)
      rw [n1]
      refine k_arrive hX hf y2 hle s2 h3 (fun v cs1 R1 m1 hX1 hz u2 e2 => ?_)
      obtain ⟨-, -, hb, hc⟩ := hz
      unfold wp_X8_packet wp_X8_packet_73
      intro r1 f1
      subst f1
      have t73 : ∀ vv : RS, ∀ mm : Nat, (rN r 0 0).1 8 0 = nI mm → mm ≤ 8 → zrem (rN r 0 0) mm 8 vv → wp_X8_comes vv (nI f) (nI s) x3 (fun r112 u113 => wp_X8_tell u113 r112 (fun r114 u115 => v = r114 ∧ Rel (B + 30000) u2 u115)) := by
        intro vv mm m1' m2' hz
        have v3 : vv.1 3 = r.1 3 := hz.row.1
        refine hc vv v3 _ ?_
        unfold wp_X8_tell
        intro r3 d3
        refine ⟨rfl, k_end (hrem mm vv m1' m2' hz) l1 e2 (by rw [d3, rN_s]) (fun j hj => by rw [d3, rN_n _ _ (by omega), rI_n _ _ (by omega)]) (fun j hj => by rw [d3, rN_2, rI_2]) ?_⟩
        rw [d3, rN_n _ _ (by decide), rI_s, rN_2, rI_2, hz.row.2]
        exact ⟨hX1.sim, (hb B bd0).to (by omega)⟩
      refine q8_inr 1 1500 (by decide) (by decide) (by decide) (fun _ _ _ _ => ⟨fun _ => q8_isFlow n h4 h24 (fun _ _ _ => ⟨fun _ => q8_hasNext f rfl (by omega) (fun _ => ⟨fun _ => ?_, fun z => absurd z (by decide)⟩) (fun hno => ?_), fun z => absurd z (by decide)⟩) (fun ho => absurd rfl (ho f hf)), fun z => absurd z (by decide)⟩) (fun ho => absurd rfl (ho s s1 s2))
      · refine q8_rem h0 (fun mm vv m1' m2' hz => ?_)
        have t := t73 vv mm m1' m2' hz
        rcases h3 with h3 | h3
        · rw [h3] at t
          exact ⟨fun _ => t, fun z => absurd h3 z⟩
        · rw [h3] at t
          exact ⟨fun z => absurd (h3.symm.trans z) (by decide), fun _ => t⟩
      · rw [nx] at hno; exact absurd c hno
    · refine k_refuse 4 (-4) (by decide) (by decide) h0 (fun u1 hu => ?_)
      unfold wp_X8_packet
      intro r1 f1
      subst f1
      refine q8_inr 1 1500 (by decide) (by decide) (by decide) (fun _ _ _ _ => ⟨fun _ => q8_isFlow n h4 h24 (fun _ _ _ => ⟨fun _ => q8_hasNext f rfl (by omega) (fun hyes => ?_) (fun _ => ⟨fun z => absurd rfl z, fun _ => hu _ (fun r2 hr => ⟨rfl, hr⟩)⟩), fun z => absurd z (by decide)⟩) (fun ho => absurd rfl (ho f hf)), fun z => absurd z (by decide)⟩) (fun ho => absurd rfl (ho s s1 s2))
      rw [nx] at hyes; exact absurd hyes c
  · refine k_refuse 2 (-2) (by decide) (by decide) h0 (fun u1 hu => ?_)
    unfold wp_X8_packet
    intro r1 f1
    subst f1
    exact q8_inr 1 1500 (by decide) (by decide) (by decide) (fun _ _ _ _ => ⟨fun _ => q8_isFlow n h4 h24 (fun f hf e => absurd e (ho f hf)) (fun _ => ⟨fun z => absurd rfl z, fun _ => hu _ (fun r2 hr => ⟨rfl, hr⟩)⟩), fun z => absurd z (by decide)⟩) (fun hno => absurd es (hno s s1 s2))
  · refine k_refuse 1 (-1) (by decide) (by decide) h0 (fun u1 hu => ?_)
    unfold wp_X8_packet
    intro r1 f1
    subst f1
    exact q8_inr 1 1500 (by decide) (by decide) (by decide) (fun s s1 s2 e => absurd e (ho s s1 s2)) (fun _ => ⟨fun z => absurd rfl z, fun _ => hu _ (fun r2 hr => ⟨rfl, hr⟩)⟩)
theorem p_packet {B : Nat} : pX_packet (Rel B) (Rel (B + 30000)) := by
  intro u r x1 x2 x3 h
  exact ⟨fun _ => p_packet1 h (Or.inl rfl), fun _ => p_packet1 h (Or.inr rfl)⟩
