-- the pure side: a packet comes, the reference; both
theorem q8_c165_lost {r : RS} {x1 x2 x3 x8 : Int32} {Qb : Int32 → RS → Prop} (f q m : Nat) (hf : f < 24) (hq : q < 4) (hm : r.1 3 (433 + 140 * q) = nI m) (hl : ¬ nI m < r.1 3 14) (hQ : Qb 4 (rI r 3 (upd (zsC (r.1 3) f 7 8) (433 + 140 * q + 5) (zsC (r.1 3) f 7 8 (433 + 140 * q + 5) + 1)))) : wp_X8_comes_165 Qb r x1 x2 x3 (nI (73 + 15 * f)) (nI q) x8 := by
  unfold wp_X8_comes_165
  refine q8_queueAt q rfl ?_
  rw [show nI (73 + 15 * f) + 7 = nI (73 + 15 * f + 7) from nI_addl _ _, show nI (433 + 140 * q) + 5 = nI (433 + 140 * q + 5) from nI_addl _ _, zn_nI (by omega), zn_nI (by omega), zn_nI (by omega), hm]
  refine ⟨in_nI (by omega) (by decide), fun z => absurd z hl, fun _ => ⟨in_nI (by omega) (by decide), in_nI (by omega) (by decide), fun a1 d1 a2 d2 => ⟨in_nI (by omega) (by decide), in_nI (by omega) (by decide), fun a3 d3 => ?_⟩⟩⟩
  have e2 : a2 = rI r 3 (zsC (r.1 3) f 7 8) := by
    rw [d2, d1, rI_rI, rI_s, pk_un (show (8 : Nat) ≠ 73 + 15 * f + 7 by omega)]
    rfl
  have e3 : a3 = rI r 3 (upd (zsC (r.1 3) f 7 8) (433 + 140 * q + 5) (zsC (r.1 3) f 7 8 (433 + 140 * q + 5) + 1)) := by
    rw [d3, e2, rI_rI, rI_s]
  rw [e3]
  exact hQ
theorem q8_c165_app {r : RS} {x2 x3 x8 : Int32} {Qb : Int32 → RS → Prop} (f q m : Nat) (hf : f < 24) (hq : q < 4) (hm : r.1 3 (433 + 140 * q) = nI m) (h32 : m < 32) (hl : nI m < r.1 3 14) (hQ1 : nI (m + 1) < r.1 3 22 → Qb (nI q) (rI r 3 (zapp (r.1 3) q m (nI f) x8 x2 x3 (r.1 3 6)))) (hQ2 : ¬ nI (m + 1) < r.1 3 22 → Qb (nI q) (rI r 3 (zsC (zapp (r.1 3) q m (nI f) x8 x2 x3 (r.1 3 6)) f 12 12))) : wp_X8_comes_165 Qb r (nI f) x2 x3 (nI (73 + 15 * f)) (nI q) x8 := by
  have tail : ∀ v : RS, v = rI r 3 (if m = 0 then upd (upd (upd (upd (upd (r.1 3) (441 + 140 * q + 4 * m) (nI f)) (441 + 140 * q + 4 * m + 1) x8) (441 + 140 * q + 4 * m + 2) x2) (441 + 140 * q + 4 * m + 3) x3) (433 + 140 * q + 2) (r.1 3 6) else upd (upd (upd (upd (r.1 3) (441 + 140 * q + 4 * m) (nI f)) (441 + 140 * q + 4 * m + 1) x8) (441 + 140 * q + 4 * m + 2) x2) (441 + 140 * q + 4 * m + 3) x3) → wp_X8_comes_308 Qb v (nI (73 + 15 * f)) (nI q) (nI (433 + 140 * q)) := by
    intro v ev
    have at0 : ∀ j, j ≠ 433 + 140 * q + 2 → ¬ (441 + 140 * q + 4 * m ≤ j ∧ j < 441 + 140 * q + 4 * m + 4) → v.1 3 j = r.1 3 j := by
      intro j j2 jp
      rw [ev, rI_s]
      by_cases z : m = 0
      · rw [if_pos z, pk_un j2, pk_un (by omega), pk_un (by omega), pk_un (by omega), pk_un (by omega)]
      · rw [if_neg z, pk_un (by omega), pk_un (by omega), pk_un (by omega), pk_un (by omega)]
    unfold wp_X8_comes_308 wp_X8_comes_375
    rw [show nI (73 + 15 * f) + 12 = nI (73 + 15 * f + 12) from nI_addl _ _, show nI (433 + 140 * q) + 7 = nI (433 + 140 * q + 7) from nI_addl _ _, zn_nI (by omega), zn_nI (by omega), zn_nI (by omega), at0 (433 + 140 * q) (by omega) (by omega), hm, nI_1]
    refine ⟨in_nI (by omega) (by decide), in_nI (by omega) (by decide), fun a1 d1 => ⟨in_nI (by omega) (by decide), in_nI (by omega) (by decide), fun a2 d2 => ⟨in_nI (by omega) (by decide), ?_⟩⟩⟩
    have e2 : a2 = rI r 3 (zapp (r.1 3) q m (nI f) x8 x2 x3 (r.1 3 6)) := by
      have e7 : (rI v 3 (upd (v.1 3) (433 + 140 * q) (nI (m + 1)))).1 3 (433 + 140 * q + 7) = r.1 3 (433 + 140 * q + 7) := by
        rw [rI_s, pk_un (by omega)]; exact at0 _ (by omega) (by omega)
      rw [d2, d1, e7, rI_rI, rI_s, ev, rI_rI, rI_s]
      rfl
    have b0 : a2.1 3 (433 + 140 * q) = nI (m + 1) := by rw [e2, rI_s, zapp_0]
    have b22 : a2.1 3 22 = r.1 3 22 := by rw [e2, rI_s, zapp_o _ _ _ _ _ _ _ _ _ (by omega) (fun _ => by omega) (by omega) (by omega)]
    rw [b0, b22]
    refine ⟨fun z => by rw [e2]; exact hQ1 z, fun z => ⟨in_nI (by omega) (by decide), in_nI (by omega) (by decide), fun a3 d3 a4 d4 => ?_⟩⟩
    have e4 : a4 = rI r 3 (zsC (zapp (r.1 3) q m (nI f) x8 x2 x3 (r.1 3 6)) f 12 12) := by
      rw [d4, d3, rI_rI, rI_s, e2, rI_rI, rI_s, pk_un (show (12 : Nat) ≠ 73 + 15 * f + 12 by omega)]
      rfl
    rw [e4]
    exact hQ2 z
  unfold wp_X8_comes_165
  refine q8_queueAt q rfl ?_
  rw [zn_nI (by omega), hm]
  refine ⟨in_nI (by omega) (by decide), fun _ => ⟨in_nI (by omega) (by decide), q8_packetAt q m rfl rfl ?_⟩, fun z => absurd hl z⟩
  rw [show nI (441 + 140 * q + 4 * m) + 1 = nI (441 + 140 * q + 4 * m + 1) from nI_addl _ _, show nI (441 + 140 * q + 4 * m) + 2 = nI (441 + 140 * q + 4 * m + 2) from nI_addl _ _, show nI (441 + 140 * q + 4 * m) + 3 = nI (441 + 140 * q + 4 * m + 3) from nI_addl _ _, show nI (433 + 140 * q) + 2 = nI (433 + 140 * q + 2) from nI_addl _ _, zn_nI (by omega), zn_nI (by omega), zn_nI (by omega), zn_nI (by omega), zn_nI (by omega)]
  refine ⟨in_nI (by omega) (by decide), fun a1 d1 => ⟨in_nI (by omega) (by decide), fun a2 d2 => ⟨in_nI (by omega) (by decide), fun a3 d3 => ⟨in_nI (by omega) (by decide), fun a4 d4 => ⟨in_nI (by omega) (by decide), ?_⟩⟩⟩⟩⟩
  have e4 : a4 = rI r 3 (upd (upd (upd (upd (r.1 3) (441 + 140 * q + 4 * m) (nI f)) (441 + 140 * q + 4 * m + 1) x8) (441 + 140 * q + 4 * m + 2) x2) (441 + 140 * q + 4 * m + 3) x3) := by
    rw [d4, d3, d2, d1]
    simp only [rI_rI, rI_s]
  have b0 : a4.1 3 (433 + 140 * q) = nI m := by rw [e4, rI_s, pk_un (by omega), pk_un (by omega), pk_un (by omega), pk_un (by omega), hm]
  have b6 : a4.1 3 6 = r.1 3 6 := by rw [e4, rI_s, pk_un (by omega), pk_un (by omega), pk_un (by omega), pk_un (by omega)]
  rw [b0]
  refine ⟨fun z => tail a4 ?_, fun z => ⟨in_nI (by omega) (by decide), fun a5 d5 => tail a5 ?_⟩⟩
  · rw [e4, if_neg (fun y => z (by rw [y]; rfl))]
  · have m0 : m = 0 := (nI_eq (by omega) (by decide)).mp (show nI m = nI 0 from z)
    rw [d5, b6, e4, rI_rI, rI_s, if_pos m0]
theorem q8_comes {r : RS} {x x3 : Int32} {Qb : Int32 → RS → Prop} (n nr f q : Nat) (m : Nat → Nat) (c : Nat → Int32) (ru : Option Nat) (st : Bool) (hn : n ≤ 24) (hf : f < n) (hq : q < 4) (hm : ∀ q, q < 4 → m q ≤ 32 ∧ r.1 3 (433 + 140 * q) = nI (m q)) (hR : rRel n c (r.1 3) nr) (hW : sW n m c (r.1 3)) (hqv : nI q = if c (7 * 24 + f) = -1 then zwish c (r.1 3) f else c (7 * 24 + f)) (hst : st = true ↔ ¬ nI q = zwish c (r.1 3) f) (hru : (ru = none ∧ ∀ k, k < nr → ¬ r.1 3 (55 + 3 * k) = nI f) ∨ ∃ k, ru = some k ∧ k < nr ∧ r.1 3 (55 + 3 * k) = nI f) (h : wp_X8_comes_165 Qb (rI r 3 (zpre (r.1 3) f x (zent (r.1 3) f) ru st)) (nI f) x x3 (nI (73 + 15 * f)) (nI q) (r.1 3 (73 + 15 * f + 5))) : wp_X8_comes r (nI f) x x3 Qb := by
  have he := zent_lt (r.1 3) f
  have h6 : nr ≤ 6 := hR.1
  have uniq : ∀ a b, a < nr → b < nr → r.1 3 (55 + 3 * a) = nI f → r.1 3 (55 + 3 * b) = nI f → a = b := by
    intro a b ha hb ea eb
    rcases Nat.lt_trichotomy a b with z | z | z
    · exact absurd (ea.trans eb.symm) (hR.2.2.2.2.2 a b z hb)
    · exact z
    · exact absurd (eb.trans ea.symm) (hR.2.2.2.2.2 b a z ha)
  have key : wp_X8_comes_33 Qb r (nI f) x x3 (nI (73 + 15 * f)) (zwish c (r.1 3) f) (nI q) := by
    unfold wp_X8_comes_33
    rw [show nI (73 + 15 * f) + 5 = nI (73 + 15 * f + 5) from nI_addl _ _, show nI (73 + 15 * f) + 6 = nI (73 + 15 * f + 6) from nI_addl _ _, zn_nI (by omega), zn_nI (by omega)]
    refine ⟨in_nI (by omega) (by decide), fun pl epl => ⟨in_nI (by omega) (by decide), in_nI (by omega) (by decide), fun a1 d1 => ⟨in_nI (by omega) (by decide), in_nI (by omega) (by decide), fun a2 d2 a3 d3 => ?_⟩⟩⟩
    subst epl
    have e3 : a3 = rI r 3 (zsC (zsN (r.1 3) f x) f 6 7) := by
      rw [d3, d2, d1]
      simp only [rI_rI, rI_s]
      rw [pk_un (show (7 : Nat) ≠ 73 + 15 * f + 6 by omega)]
      rfl
    have z3 : zent (a3.1 3) f = zent (r.1 3) f := by
      unfold zent
      rw [e3, rI_s, zsC_o (by omega) (by omega)]
      unfold zsN
      rw [pk_un (by omega)]
    refine q8_entryOf f rfl (by omega) ?_
    rw [z3, nI_ladd, zn_nI (by omega)]
    refine ⟨in_nI (by omega) (by decide), in_nI (by omega) (by decide), fun a4 d4 => ?_⟩
    have e4 : a4 = rI r 3 (zsH (zsC (zsN (r.1 3) f x) f 6 7) (zent (r.1 3) f)) := by
      rw [d4, e3, rI_rI, rI_s]
      rfl
    have o4 : ∀ j, (j < 7 ∨ (55 ≤ j ∧ j < 73)) → a4.1 3 j = r.1 3 j := by
      intro j hj
      rw [e4, rI_s]
      unfold zsH
      rw [pk_un (by omega), zsC_o (by omega) (by omega)]
      unfold zsN
      rw [pk_un (by omega)]
    have t133 : ∀ v : RS, v = rI r 3 (zsU (zsH (zsC (zsN (r.1 3) f x) f 6 7) (zent (r.1 3) f)) ru) → wp_X8_comes_133 Qb v (nI f) x x3 (nI (73 + 15 * f)) (zwish c (r.1 3) f) (nI q) (r.1 3 (73 + 15 * f + 5)) := by
      intro v ev
      unfold wp_X8_comes_133
      rw [show nI (73 + 15 * f) + 8 = nI (73 + 15 * f + 8) from nI_addl _ _, zn_nI (by omega)]
      unfold zpre zsS at h
      refine ⟨fun z => ?_, fun z => ⟨in_nI (by omega) (by decide), in_nI (by omega) (by decide), fun b1 c1 b2 c2 => ?_⟩⟩
      · have : st = false := by
          cases st with
          | false => rfl
          | true => exact absurd z (hst.mp rfl)
        rw [this] at h
        rw [ev]; exact h
      · have : st = true := hst.mpr z
        rw [this] at h
        have eb : b2 = rI r 3 (zsC (zsU (zsH (zsC (zsN (r.1 3) f x) f 6 7) (zent (r.1 3) f)) ru) f 8 9) := by
          rw [c2, c1, ev]
          simp only [rI_rI, rI_s]
          rw [pk_un (show (9 : Nat) ≠ 73 + 15 * f + 8 by omega)]
          rfl
        rw [eb]; exact h
    refine q8_ruleOf1 nr (by rw [o4 5 (by omega)]; exact hR.2.1) h6 (fun y hy => ?_)
    rcases hru with ⟨rfl, hno⟩ | ⟨k, rfl, k1, k2⟩
    · have y1 : y = -1 := by
        rcases hy with ⟨rr, q1, q2, q3⟩ | ⟨q1, -⟩
        · rw [o4 _ (by omega)] at q3
          exact absurd q3 (hno rr q1)
        · exact q1
      refine ⟨fun _ => t133 a4 ?_, fun z => absurd y1 z⟩
      rw [e4]
      rfl
    · have y1 : y = nI k := by
        rcases hy with ⟨rr, q1, q2, q3⟩ | ⟨-, q2⟩
        · rw [o4 _ (by omega)] at q3
          rw [q2, uniq rr k q1 k1 q3 k2]
        · exact absurd (by rw [o4 _ (by omega)]; exact k2) (q2 k k1)
      refine ⟨fun z => absurd (y1.symm.trans z) (nI_nm1 (by omega)), fun _ => q8_ruleAt k y1 ?_⟩
      rw [show nI (55 + 3 * k) + 2 = nI (55 + 3 * k + 2) from nI_addl _ _, zn_nI (by omega)]
      refine ⟨in_nI (by omega) (by decide), fun a5 d5 => t133 a5 ?_⟩
      rw [d5, e4, rI_rI, rI_s]
      rfl
  unfold wp_X8_comes
  refine q8_flowAt f rfl (q8_wishOf n nr f c rfl hn hf hR (k_queueOf hm hW hf ⟨fun z => ?_, fun z => ?_⟩))
  · rw [if_neg z] at hqv
    rw [← hqv]; exact key
  · rw [if_pos z] at hqv
    have := key
    rw [← hqv]
    rw [← hqv] at this
    exact this
