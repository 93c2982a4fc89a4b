-- the pure side: ticks
theorem i64_sub32 (a b : Int64) : (a - b).toInt32 = a.toInt32 - b.toInt32 := Int64.toInt32_sub a b
theorem nI_in100 {x1 : Int32} (h1 : ¬ x1 < 1) (h2 : x1 ≤ 100) : ∃ k, 1 ≤ k ∧ k ≤ 100 ∧ x1 = nI k := by
  rw [Int32.lt_iff_toInt_lt] at h1
  rw [Int32.le_iff_toInt_le] at h2
  have z1 : (1 : Int32).toInt = 1 := by decide
  have z9 : (100 : Int32).toInt = 100 := by decide
  rw [z1] at h1
  rw [z9] at h2
  obtain ⟨k, hk, ek⟩ := i32_of (x := x1) (n := 100) (by omega) (by omega) (by decide)
  rw [ek, nI_toInt (by omega)] at h1
  exact ⟨k, by omega, hk, ek⟩
theorem zgiven {r r1 : RS} {R1 : Nat → Int32} {S S1 : Nat → Int64} {o1 : Nat → Int32} (h : zst r r1 R1 S1 o1) (hS : r.2 4 = S) (h18 : r.1 18 0 = 0) : r1.1 18 0 = (S1 0 - S 0).toInt32 := by
  have h4 := h.2.2.2.1
  rw [h.2.1, hS, h18] at h4
  rw [i64_sub32]
  grind
theorem zcalled {r r1 : RS} {R R1 : Nat → Int32} {S1 : Nat → Int64} {o1 : Nat → Int32} (h : zst r r1 R1 S1 o1) (hR : r.1 3 = R) (h19 : r.1 19 0 = 0) : r1.1 19 0 = R1 10 - R 10 := by
  have h4 := h.2.2.2.2.1
  rw [h.1, hR, h19] at h4
  grind
theorem q8_tb1 {Qb : RS → Prop} {C : RS → Int32 → Int32 → Prop} {r : RS} {k i : Nat} (hk : k ≤ 100) (hi : i < k) (h : wp_X8_ticks r (fun u => C u (nI k) (nI (i + 1)))) : wp_X8_ticksBy_12 Qb C r (nI k) (nI i) := by
  unfold wp_X8_ticksBy_12
  refine ⟨fun z => absurd ((nI_leI (by omega) (by omega)).mp z) (by omega), fun _ => ?_⟩
  have fe : (fun u104 => ∀ (x105 : Int32), x105 = nI i + 1 → C u104 (nI k) x105) = (fun u => C u (nI k) (nI (i + 1))) := by
    funext u
    exact propext ⟨fun hh => hh _ (by rw [nI_1]), fun hh x ex => by rw [ex, nI_1]; exact hh⟩
  rw [fe]
  exact h
theorem q8_tb0 {Qb : RS → Prop} {C : RS → Int32 → Int32 → Prop} {r : RS} {k : Nat} (h : Qb r) : wp_X8_ticksBy_12 Qb C r (nI k) (nI k) := by
  unfold wp_X8_ticksBy_12
  exact ⟨fun _ => h, fun z => absurd (Int32.le_refl _) z⟩
/-- the state of both after i of k ticks, from a row -/
def Tk (n B x k : Nat) (R : Nat → Int32) (S : Nat → Int64) (i : Nat) (cs : Nat → RS) : Prop := ∃ (R1 : Nat → Int32) (S1 : Nat → Int64) (nr1 : Nat) (m1 : Nat → Nat), SimX n nr1 m1 cs R1 S1 ∧ Bd (B + 224 * i) R1 S1 ∧ R1 6 = nI (x + i) ∧ (∀ j, (j < 5 ∨ (14 ≤ j ∧ j < 55)) → R1 j = R j) ∧ ∀ (r : RS) (Qb : RS → Prop), r.1 3 = R → r.2 4 = S → (∀ r1 o1, zst r r1 R1 S1 o1 → zit3 (wp_X8_ticksBy_12 Qb) (k - i + 1) r1 (nI k) (nI i)) → zit3 (wp_X8_ticksBy_12 Qb) (k + 1) r (nI k) 0
theorem Tk.start {n nr B x k : Nat} {m : Nat → Nat} {R : Nat → Int32} {S : Nat → Int64} {cs : Nat → RS} (h : SimX n nr m cs R S) (hb : Bd B R S) (hx : R 6 = nI x) : Tk n B x k R S 0 cs :=
  ⟨R, S, nr, m, h, hb, hx, fun _ _ => rfl, fun r Qb hr hS hc => hc r (r.1 17) ⟨hr, hS, fun _ _ => rfl, rfl, rfl, fun _ _ _ _ _ => rfl, fun _ _ => rfl⟩⟩
theorem Tk.next {n B x k i : Nat} {R : Nat → Int32} {S : Nat → Int64} {cs : Nat → RS} {Q : (Nat → RS) → Prop} (h : Tk n B x k R S i cs) (hk : k ≤ 100) (hi : i < k) (hx : x + k ≤ 99999) (hQ : ∀ cs1, Tk n B x k R S (i + 1) cs1 → Q cs1) : wp_X5_passTick cs Q := by
  obtain ⟨R1, S1, nr1, m1, hX1, hb1, h61, hf1, hrun1⟩ := h
  refine k_tick hX1 hb1 h61 (by omega) (fun cs2 R2 S2 nr2 m2 hX2 hb2 h62 hf2 hrun2 => hQ cs2 ⟨R2, S2, nr2, m2, hX2, by rw [show B + 224 * (i + 1) = B + 224 * i + 224 by omega]; exact hb2, h62, fun j hj => by rw [hf2 j hj]; exact hf1 j hj, fun r Qb hr hS hc => hrun1 r Qb hr hS (fun r1 o1 hst => ?_)⟩)
  rw [show k - i + 1 = (k - (i + 1) + 1) + 1 by omega]
  show wp_X8_ticksBy_12 Qb (zit3 (wp_X8_ticksBy_12 Qb) (k - (i + 1) + 1)) r1 (nI k) (nI i)
  exact q8_tb1 hk hi (hrun2 r1 _ hst.1 hst.2.1 (fun r2 o2 hst2 => hc r2 o2 (hst.trans hst2)))
theorem Tk.done {n B x k : Nat} {R : Nat → Int32} {S : Nat → Int64} {cs : Nat → RS} (h : Tk n B x k R S k cs) : ∃ (R1 : Nat → Int32) (S1 : Nat → Int64) (nr1 : Nat) (m1 : Nat → Nat), SimX n nr1 m1 cs R1 S1 ∧ Bd (B + 224 * k) R1 S1 ∧ ∀ (r : RS) (Qb : RS → Prop), r.1 3 = R → r.2 4 = S → (∀ r1 o1, zst (rN (rN r 18 0) 19 0) r1 R1 S1 o1 → Qb r1) → wp_X8_ticksBy r (nI k) Qb := by
  obtain ⟨R1, S1, nr1, m1, hX1, hb1, h61, hf1, hrun1⟩ := h
  refine ⟨R1, S1, nr1, m1, hX1, hb1, fun r Qb hr hS hc => ?_⟩
  unfold wp_X8_ticksBy
  intro r1 d1 r2 d2
  subst d1
  subst d2
  refine ⟨k + 1, hrun1 _ Qb (by rw [rN_n _ _ (by decide), rN_n _ _ (by decide)]; exact hr) hS (fun r1 o1 hst => ?_)⟩
  rw [Nat.sub_self]
  show wp_X8_ticksBy_12 Qb (zit3 (wp_X8_ticksBy_12 Qb) 0) r1 (nI k) (nI k)
  exact q8_tb0 (hc r1 o1 hst)
theorem tN_tN (u : TS) (a b : Nat → RS) : tN (tN u a) b = tN u b := rfl
theorem p_tick {B : Nat} : pX_tick (Rel B) (Rel (B + 30000)) := by
  intro u r x1 h
  have bd0 : Bd B (r.1 3) (r.2 4) := h.2.2.1.2
  replace h := h.up 30000
  have h0 : Rel0 (B + 30000) u (rN r 0 0) := h.2
  have hs : Sim u.2.2.1 (r.1 3) (r.2 4) := h.2.2.1.1
  obtain ⟨n, nr, m, hX⟩ := hs.x
  have hO := hX.2.2.2.2.2.2.2.2.2.1
  obtain ⟨x, xle, ex⟩ := hO.2.2.2.1
  have ct : (u.2.2.1 0).1 6 0 = nI x := by rw [hO.2.1]; exact ex
  have rt : (rN r 0 0).1 3 6 = nI x := ex
  have out : (¬ ∃ k, 1 ≤ k ∧ k ≤ 100 ∧ x1 = nI k) → wp_X7_refuse u (-1) (fun r102 u103 => wp_X8_tick r x1 (fun y r1 => r102 = y ∧ Rel (B + 30000) u103 r1)) := by
    intro hno
    refine k_refuse 1 (-1) (by decide) (by decide) h0 (fun u1 hu => ?_)
    unfold wp_X8_tick
    intro r1 f1
    subst f1
    exact q8_inr 1 100 (by decide) (by decide) (by decide) (fun k k1 k2 e => absurd ⟨k, k1, k2, e⟩ hno) (fun _ => ⟨fun z => absurd rfl z, fun _ => hu _ (fun r2 hr => ⟨rfl, hr⟩)⟩)
  unfold wp_X7_tick wp_X7_tick_11
  refine ⟨fun c => out ?_, fun c1 => ⟨fun c2 => ?_, fun c => out ?_⟩⟩
  · rintro ⟨k, k1, k2, rfl⟩
    exact absurd (show nI k < nI 1 from c) (nI_nlt k1 (by omega))
  · obtain ⟨k, k1, k2, ek⟩ := nI_in100 c1 c2
    subst ek
    rw [ct, nI_add, show (99999 : Int32) = nI 99999 from rfl, nI_leI (by omega) (by decide)]
    refine ⟨fun c => ?_, fun c => ?_⟩
    · refine q7_begin h0 (fun u1 l1 n1 o1 hrem y ey => ?_)
      rw [n1] at ey
      have hX1 : SimX n nr m u1.2.2.1 (r.1 3) (r.2 4) := by rw [n1]; exact hX
      have y0 : y = r.2 4 0 := by
        rw [ey]
        obtain ⟨_, _, _, _, _, _, _, _, g⟩ := hX.2.2.2.2.2.2.2.1
        exact g 0 (by omega)
      refine zl4 (wp_X7_tick_60 _) k (fun i v z1 z2 z3 => z1 = nI k ∧ z2 = y ∧ z3 = nI i ∧ ∃ cs, v = tN u1 cs ∧ Tk n B x k (r.1 3) (r.2 4) i cs) ?_ 0 (Nat.zero_le _) u1 _ _ 0 ⟨rfl, rfl, rfl, u1.2.2.1, rfl, Tk.start hX1 bd0 ex⟩
      rintro i C v z1 z2 z3 hi ⟨rfl, rfl, rfl, cs, rfl, hT⟩ hC
      unfold wp_X7_tick_60
      refine ⟨fun z => ?_, fun z => ?_⟩
      · have hi := nI_stop (by omega) hi z
        subst hi
        obtain ⟨R1, S1, nr1, m1, hX2, hb2, hrun⟩ := hT.done
        have cS : (cs 4).2 1 0 = S1 0 := by
          obtain ⟨_, _, _, _, _, _, _, _, g⟩ := hX2.2.2.2.2.2.2.2.1
          exact g 0 (by omega)
        unfold wp_X8_tick
        intro r1 f1
        subst f1
        refine q8_inr 1 100 (by decide) (by decide) (by decide) (fun _ _ _ _ => ⟨fun _ => ?_, fun z => absurd z (by decide)⟩) (fun ho => absurd rfl (ho i k1 k2))
        rw [rt, nI_add, show (99999 : Int32) = nI 99999 from rfl, nI_leI (by omega) (by decide)]
        refine ⟨fun _ => q8_rem h0 (fun mm v m1 m2 hz => ?_), fun z => absurd c z⟩
        refine hrun v _ hz.row.1 hz.row.2 (fun r2 o2 hst => ?_)
        have g18 := zgiven hst (show (rN (rN v 18 0) 19 0).2 4 = r.2 4 from hz.row.2) (by rw [rN_n _ _ (by decide), rN_s])
        obtain ⟨s1, s2, s3, s4, s5, s6, s7⟩ := hst
        unfold wp_X8_tell
        intro r3 d3
        refine ⟨?_, k_end (hrem mm v m1 m2 hz) l1 rfl (by rw [d3, rN_s]) (fun j hj => by rw [d3, rN_n _ _ (by omega), s6 j (by omega) (by omega) (by omega) (by omega), rN_n _ _ (by omega), rN_n _ _ (by omega)]) (fun j hj => by rw [d3, rN_2, s7 j (by omega)]; rfl) ?_⟩
        · rw [g18]
          show ((cs 4).2 1 0 - z2).toInt32 = _
          rw [cS, y0]
        · rw [d3, rN_n _ _ (by decide), rN_2, s1, s2]
          exact ⟨hX2.sim, hb2.to (by omega)⟩
      · have hlt := nI_go (by omega) hi z
        refine hT.next k2 hlt c (fun cs1 hT1 u2 e2 x' ex' => hC _ _ _ _ hlt ⟨rfl, rfl, by rw [ex', nI_1], cs1, by rw [e2, tN_tN], hT1⟩)
    · refine k_refuse 4 (-4) (by decide) (by decide) h0 (fun u1 hu => ?_)
      unfold wp_X8_tick
      intro r1 f1
      subst f1
      refine q8_inr 1 100 (by decide) (by decide) (by decide) (fun _ _ _ _ => ⟨fun _ => ?_, fun z => absurd z (by decide)⟩) (fun ho => absurd rfl (ho k k1 k2))
      rw [rt, nI_add, show (99999 : Int32) = nI 99999 from rfl, nI_leI (by omega) (by decide)]
      exact ⟨fun z => absurd z c, fun _ => hu _ (fun r2 hr => ⟨rfl, hr⟩)⟩
  · rintro ⟨k, k1, k2, rfl⟩
    exact absurd (show nI k ≤ nI 100 from nI_le k2 (by decide)) c
