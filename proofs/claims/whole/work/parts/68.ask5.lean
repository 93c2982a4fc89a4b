-- the pure side: missing, alike
theorem i32_ss (a b c : Int32) : a - b - c = a - (b + c) := by
  apply Int32.toBitVec_inj.mp
  simp only [Int32.toBitVec_sub, Int32.toBitVec_add]
  first | exact (BitVec.sub_sub _ _ _) | grind | bv_omega
theorem zmax_le (x y : Int32) : zmax x y = if y ≤ x then x else y := by
  unfold zmax
  by_cases h : x < y
  · rw [if_pos h, if_neg (Int32.not_le.mpr h)]
  · rw [if_neg h, if_pos (Int32.not_lt.mp h)]
/-- the packets of a flow in a queue: how much waits, where the last ends, the widest hole -/
def zms (R : Nat → Int32) (q f : Nat) : Nat → Int32 × Int32 × Int32 → Int32 × Int32 × Int32
  | 0, s => s
  | k + 1, s => if R (441 + 140 * q + 4 * k + 0) == nI f then ((zms R q f k s).1 + R (441 + 140 * q + 4 * k + 2), R (441 + 140 * q + 4 * k + 1) + R (441 + 140 * q + 4 * k + 2), zmax (zms R q f k s).2.2 (R (441 + 140 * q + 4 * k + 1) - (zms R q f k s).2.1)) else zms R q f k s
theorem zms_id (R : Nat → Int32) (q f : Nat) : ∀ (k : Nat) (s : Int32 × Int32 × Int32), zcq R k q f = 0 → zms R q f k s = s
  | 0, _, _ => rfl
  | k + 1, s, h => by
    rw [zcq_s] at h
    have hb : (R (441 + 140 * q + 4 * k + 0) == nI f) = false := by
      cases e : (R (441 + 140 * q + 4 * k + 0) == nI f) with
      | false => rfl
      | true => rw [e] at h; simp at h
    show (if _ then _ else _) = s
    rw [hb]
    simp only [Bool.false_eq_true, if_false]
    exact zms_id R q f k s (by rw [hb] at h; simpa using h)
def zmsA (R : Nat → Int32) (m : Nat → Nat) (f : Nat) (s : Int32 × Int32 × Int32) : Nat → Int32 × Int32 × Int32
  | 0 => s
  | q + 1 => zms R q f (m q) (zmsA R m f s q)
theorem zmsA_0 (R : Nat → Int32) (m : Nat → Nat) (f : Nat) (s : Int32 × Int32 × Int32) : ∀ i, (∀ q, q < i → zcq R (m q) q f = 0) → zmsA R m f s i = s
  | 0, _ => rfl
  | i + 1, h => by
    show zms R i f (m i) (zmsA R m f s i) = s
    rw [zmsA_0 R m f s i (fun q hq => h q (by omega)), zms_id _ _ _ _ _ (h i (by omega))]
theorem zmsA_1 (R : Nat → Int32) (m : Nat → Nat) (f q : Nat) (s : Int32 × Int32 × Int32) : ∀ i, q < i → (∀ p, p < i → p ≠ q → zcq R (m p) p f = 0) → zmsA R m f s i = zms R q f (m q) s
  | 0, h, _ => absurd h (Nat.not_lt_zero q)
  | i + 1, h, h2 => by
    show zms R i f (m i) (zmsA R m f s i) = _
    by_cases e : q = i
    · subst e
      rw [zmsA_0 R m f s q (fun p hp => h2 p (by omega) (by omega))]
    · rw [zms_id _ _ _ _ _ (h2 i (by omega) (fun z => e z.symm)), zmsA_1 R m f q s i (by omega) (fun p hp => h2 p (by omega))]
theorem q8_missing50 {u : RS} {x2 : Int32} {Q : Int32 → RS → Prop} (f : Nat) (m : Nat → Nat) (hf : f < 24) (hm : ∀ q, q < 4 → m q ≤ 32 ∧ u.1 3 (433 + 140 * q) = nI (m q)) (s0 : Int32 × Int32 × Int32) (h : (¬ x2 = 0 → Q (zmax (zmsA (u.1 3) m f s0 4).2.2 (u.1 3 (73 + 15 * f + 5) - (zmsA (u.1 3) m f s0 4).2.1)) u) ∧ (x2 = 0 → Q (u.1 3 (73 + 15 * f + 5) - u.1 3 (73 + 15 * f + 13) - (zmsA (u.1 3) m f s0 4).1) u)) : ∃ k, zit8 (wp_X8_missing_50 Q) k u (nI f) x2 (nI (73 + 15 * f)) s0.1 s0.2.1 s0.2.2 0 := by
  refine zl8 (wp_X8_missing_50 Q) 4 (fun i v y1 y2 y3 y4 y5 y6 y7 => v = u ∧ y1 = nI f ∧ y2 = x2 ∧ y3 = nI (73 + 15 * f) ∧ y4 = (zmsA (u.1 3) m f s0 i).1 ∧ y5 = (zmsA (u.1 3) m f s0 i).2.1 ∧ y6 = (zmsA (u.1 3) m f s0 i).2.2 ∧ y7 = nI i) ?_ 0 (Nat.zero_le _) u _ _ _ _ _ _ 0 ⟨rfl, rfl, rfl, rfl, rfl, rfl, rfl, rfl⟩
  rintro i B v y1 y2 y3 y4 y5 y6 y7 hi ⟨rfl, rfl, rfl, rfl, rfl, rfl, rfl, rfl⟩ hB
  unfold wp_X8_missing_50 wp_X8_missing_209 wp_X8_missing_241
  rw [nI_addl, nI_addl, zn_nI (by omega), zn_nI (by omega)]
  refine ⟨fun hc => ⟨in_nI (by omega) (by decide), ?_⟩, fun hc => ?_⟩
  · have hi := nI_stop (N := 4) (by decide) hi hc
    subst hi
    have i5 : vp_in (nI (73 + 15 * f + 5)) 1065 := in_nI (by omega) (by decide)
    have i13 : vp_in (nI (73 + 15 * f + 13)) 1065 := in_nI (by omega) (by decide)
    rw [zmax_le] at h
    refine ⟨fun c => ⟨fun z => ?_, fun z => ⟨i5, i13, h.2 z⟩⟩, fun c => ⟨i5, fun z => ?_, fun z => ⟨i5, i13, h.2 z⟩⟩⟩
    · have := h.1 z
      rw [if_pos c] at this
      exact this
    · have := h.1 z
      rw [if_neg c] at this
      exact this
  · have hlt := nI_go (N := 4) (by decide) hi hc
    obtain ⟨m1, m2⟩ := hm i hlt
    refine zl9 (wp_X8_missing_59 Q B) (m i) (fun k w z1 z2 z3 z4 z5 z6 z7 z8 => w = v ∧ z1 = nI f ∧ z2 = y2 ∧ z3 = nI (73 + 15 * f) ∧ z4 = (zms (v.1 3) i f k (zmsA (v.1 3) m f s0 i)).1 ∧ z5 = (zms (v.1 3) i f k (zmsA (v.1 3) m f s0 i)).2.1 ∧ z6 = (zms (v.1 3) i f k (zmsA (v.1 3) m f s0 i)).2.2 ∧ z7 = nI i ∧ z8 = nI k) ?_ 0 (Nat.zero_le _) v _ _ _ _ _ _ _ 0 ⟨rfl, rfl, rfl, rfl, rfl, rfl, rfl, rfl, rfl⟩
    rintro k B2 w z1 z2 z3 z4 z5 z6 z7 z8 hk ⟨rfl, rfl, rfl, rfl, rfl, rfl, rfl, rfl, rfl⟩ hB2
    unfold wp_X8_missing_59
    refine q8_queueAt i rfl ?_
    rw [zn_nI (by omega), m2]
    refine ⟨in_nI (by omega) (by decide), fun hc2 y ey => ?_, fun hc2 => ?_⟩
    · have hk := nI_stop (by omega) hk hc2
      subst hk
      exact hB _ _ _ _ _ _ _ _ hlt ⟨rfl, rfl, rfl, rfl, rfl, rfl, rfl, by rw [ey, nI_1]⟩
    · have hlt2 := nI_go (by omega) hk hc2
      refine q8_packetAt i k rfl rfl ?_
      unfold wp_X8_missing_128 wp_X8_missing_165
      rw [show nI (441 + 140 * i + 4 * k) + 1 = nI (441 + 140 * i + 4 * k + 1) from nI_addl _ _, show nI (441 + 140 * i + 4 * k) + 2 = nI (441 + 140 * i + 4 * k + 2) from nI_addl _ _, zn_nI (by omega), zn_nI (by omega), zn_nI (by omega)]
      have p0 : vp_in (nI (441 + 140 * i + 4 * k)) 1065 := in_nI (by omega) (by decide)
      have p1 : vp_in (nI (441 + 140 * i + 4 * k + 1)) 1065 := in_nI (by omega) (by decide)
      have p2 : vp_in (nI (441 + 140 * i + 4 * k + 2)) 1065 := in_nI (by omega) (by decide)
      refine ⟨p0, fun hne y ey => ?_, fun he => ⟨p1, ?_⟩⟩
      · have hb : (w.1 3 (441 + 140 * i + 4 * k + 0) == nI f) = false := by simpa using hne
        have es : zms (w.1 3) i f (k + 1) (zmsA (w.1 3) m f s0 i) = zms (w.1 3) i f k (zmsA (w.1 3) m f s0 i) := by
          show (if _ then _ else _) = _
          rw [hb]; rfl
        exact hB2 _ _ _ _ _ _ _ _ _ hlt2 ⟨rfl, rfl, rfl, rfl, by rw [es], by rw [es], by rw [es], rfl, by rw [ey, nI_1]⟩
      · have hb : (w.1 3 (441 + 140 * i + 4 * k + 0) == nI f) = true := by simpa using he
        have es : zms (w.1 3) i f (k + 1) (zmsA (w.1 3) m f s0 i) = ((zms (w.1 3) i f k (zmsA (w.1 3) m f s0 i)).1 + w.1 3 (441 + 140 * i + 4 * k + 2), w.1 3 (441 + 140 * i + 4 * k + 1) + w.1 3 (441 + 140 * i + 4 * k + 2), zmax (zms (w.1 3) i f k (zmsA (w.1 3) m f s0 i)).2.2 (w.1 3 (441 + 140 * i + 4 * k + 1) - (zms (w.1 3) i f k (zmsA (w.1 3) m f s0 i)).2.1)) := by
          show (if _ then _ else _) = _
          rw [hb]; rfl
        have fin : ∀ t : Int32, t = zmax (zms (w.1 3) i f k (zmsA (w.1 3) m f s0 i)).2.2 (w.1 3 (441 + 140 * i + 4 * k + 1) - (zms (w.1 3) i f k (zmsA (w.1 3) m f s0 i)).2.1) → vp_in (nI (441 + 140 * i + 4 * k + 1)) 1065 ∧ vp_in (nI (441 + 140 * i + 4 * k + 2)) 1065 ∧ ∀ x129 : Int32, x129 = w.1 3 (441 + 140 * i + 4 * k + 1) + w.1 3 (441 + 140 * i + 4 * k + 2) → vp_in (nI (441 + 140 * i + 4 * k + 2)) 1065 ∧ ∀ x131 : Int32, x131 = (zms (w.1 3) i f k (zmsA (w.1 3) m f s0 i)).1 + w.1 3 (441 + 140 * i + 4 * k + 2) → ∀ x124 : Int32, x124 = nI k + 1 → B2 w (nI f) z2 (nI (73 + 15 * f)) x131 x129 t (nI i) x124 := by
          intro t et
          refine ⟨p1, p2, fun y ey => ⟨p2, fun z ez x ex => ?_⟩⟩
          exact hB2 _ _ _ _ _ _ _ _ _ hlt2 ⟨rfl, rfl, rfl, rfl, by rw [es, ez], by rw [es, ey], by rw [es, et], rfl, by rw [ex, nI_1]⟩
        refine ⟨fun c => fin _ ?_, fun c => ⟨p1, fin _ ?_⟩⟩
        · rw [zmax_le, if_pos c]
        · rw [zmax_le, if_neg c]
theorem q5_missingBytes {cs : Nat → RS} {R : Nat → Int32} {Q : Int32 → (Nat → RS) → Prop} {s : Int32 × Int32 × Int32} (n f : Nat) (m : Nat → Nat) (hf : f < n) (hF : sF n ((cs 2).1 1) R) (hQ : ∀ q, q < 4 → sQ n q (m q) (cs (5 + q)) R) (hW : sW n m ((cs 2).1 1) R) (hs : s.1 = 0) (h : Q (R (73 + 15 * f + 5) - R (73 + 15 * f + 13) - (zmsA R m f s 4).1) cs) : wp_X5_missingBytes cs (nI f) Q := by
  have h24 : n ≤ 24 := hF.2.1
  have c9 : (cs 2).1 1 (9 * 24 + f) = R (73 + 15 * f + 5) := hF.2.2.1 f 5 hf (by omega)
  have c19 : (cs 2).1 1 (19 * 24 + f) = R (73 + 15 * f + 13) := hF.2.2.1 f 13 hf (by omega)
  unfold wp_X5_missingBytes
  refine q0_get 9 f rfl rfl (by omega) (by omega) (fun a1 d1 => ?_)
  rw [va_up_id] at d1
  subst d1
  refine q0_get 19 f rfl rfl (by omega) (by omega) (fun a2 d2 => ?_)
  rw [va_up_id] at d2
  subst d2
  intro x ex
  refine q0_get 7 f rfl rfl (by omega) (by omega) (fun a3 d3 => ?_)
  rw [va_up_id] at d3
  subst d3
  rw [c9, c19] at ex
  obtain ⟨-, w2⟩ := hW f hf
  rcases w2 with ⟨a, b⟩ | ⟨q, q1, q2, q3, q4⟩
  · refine ⟨fun z => absurd a z, fun _ => ?_⟩
    rw [zmsA_0 _ _ _ _ 4 b, hs, Int32.sub_zero] at h
    rw [ex]; exact h
  · rw [zmsA_1 _ _ _ q _ 4 q1 q4] at h
    rw [q2]
    refine ⟨fun _ => ?_, fun z => absurd z (nI_nm1 (by omega))⟩
    obtain ⟨k1, k2, k3, k4, -⟩ := hQ q q1
    have km : (a3 (5 + q)).1 0 0 = nI (m q) := (k3 0 (by omega)).trans k2
    refine zl5 (wp_X5_missingBytes_43 Q) (m q) (fun i v y1 y2 y3 y4 => v = a3 ∧ y1 = nI f ∧ y2 = R (73 + 15 * f + 5) - R (73 + 15 * f + 13) - (zms R q f i s).1 ∧ y3 = nI q ∧ y4 = nI i) ?_ 0 (Nat.zero_le _) a3 _ _ _ 0 ⟨rfl, rfl, by rw [ex]; show _ = _ - s.1; rw [hs, Int32.sub_zero], rfl, rfl⟩
    rintro i B v y1 y2 y3 y4 hi ⟨rfl, rfl, rfl, rfl, rfl⟩ hB
    unfold wp_X5_missingBytes_43
    rw [zn_nI (by omega), km]
    have iq : vp_in (nI q) 4 := in_nI (by omega) (by decide)
    refine ⟨iq, iq, fun hc => ?_, fun hc => ⟨iq, iq, ?_⟩⟩
    · have hi := nI_stop (by omega) hi hc
      subst hi; exact h
    · have hlt := nI_go (by omega) hi hc
      unfold wp_X3_at wp_X5_missingBytes_88
      rw [nI_lmul, show nI (4 * i) + 0 = nI (4 * i + 0) from nI_addl _ _, show nI (4 * i) + 2 = nI (4 * i + 2) from nI_addl _ _, zn_nI (by omega), zn_nI (by omega)]
      refine ⟨in_nI (by omega) (by decide), fun b1 e1 => ?_⟩
      rw [va_up_id] at e1
      subst e1
      have r0 : (b1 (5 + q)).1 8 (4 * i + 0) = R (441 + 140 * q + 4 * i + 0) := k4 i 0 hlt (by omega)
      have r2 : (b1 (5 + q)).1 8 (4 * i + 2) = R (441 + 140 * q + 4 * i + 2) := k4 i 2 hlt (by omega)
      rw [r0]
      refine ⟨fun hne y ey => ?_, fun he => ⟨iq, iq, in_nI (by omega) (by decide), fun b2 e2 => ?_⟩⟩
      · have hb : (R (441 + 140 * q + 4 * i + 0) == nI f) = false := by simpa using hne
        refine hB _ _ _ _ _ hlt ⟨rfl, rfl, ?_, rfl, by rw [ey, nI_1]⟩
        have es : zms R q f (i + 1) s = zms R q f i s := by
          show (if _ then _ else _) = _
          rw [hb]; rfl
        rw [es]
      · rw [va_up_id] at e2
        subst e2
        intro x1 ex1 y ey
        have hb : (R (441 + 140 * q + 4 * i + 0) == nI f) = true := by simpa using he
        refine hB _ _ _ _ _ hlt ⟨rfl, rfl, ?_, rfl, by rw [ey, nI_1]⟩
        have es : (zms R q f (i + 1) s).1 = (zms R q f i s).1 + R (441 + 140 * q + 4 * i + 2) := by
          show (if _ then _ else _ : Int32 × Int32 × Int32).1 = _
          rw [hb]; rfl
        rw [es, ex1, r2, i32_ss]
theorem q5_widestHole {cs : Nat → RS} {R : Nat → Int32} {Q : Int32 → (Nat → RS) → Prop} (n f : Nat) (m : Nat → Nat) (hf : f < n) (hF : sF n ((cs 2).1 1) R) (hQ : ∀ q, q < 4 → sQ n q (m q) (cs (5 + q)) R) (hW : sW n m ((cs 2).1 1) R) (h : Q (zmax (zmsA R m f (0, R (73 + 15 * f + 9), 0) 4).2.2 (R (73 + 15 * f + 5) - (zmsA R m f (0, R (73 + 15 * f + 9), 0) 4).2.1)) cs) : wp_X5_widestHole cs (nI f) Q := by
  have h24 : n ≤ 24 := hF.2.1
  have c9 : (cs 2).1 1 (9 * 24 + f) = R (73 + 15 * f + 5) := hF.2.2.1 f 5 hf (by omega)
  have c15 : (cs 2).1 1 (15 * 24 + f) = R (73 + 15 * f + 9) := hF.2.2.1 f 9 hf (by omega)
  have fin : ∀ (x2 x3 : Int32), x2 = (zmsA R m f (0, R (73 + 15 * f + 9), 0) 4).2.1 → x3 = (zmsA R m f (0, R (73 + 15 * f + 9), 0) 4).2.2 → wp_X5_widestHole_113 Q cs (nI f) x2 x3 := by
    intro x2 x3 e2 e3
    unfold wp_X5_widestHole_113
    refine q0_get 9 f rfl rfl (by omega) (by omega) (fun a1 d1 => ?_)
    rw [va_up_id] at d1
    subst d1
    rw [c9, e2, e3]
    exact h
  unfold wp_X5_widestHole
  refine q0_get 15 f rfl rfl (by omega) (by omega) (fun a1 d1 => ?_)
  rw [va_up_id] at d1
  subst d1
  refine q0_get 7 f rfl rfl (by omega) (by omega) (fun a3 d3 => ?_)
  rw [va_up_id] at d3
  subst d3
  rw [c15]
  obtain ⟨-, w2⟩ := hW f hf
  rcases w2 with ⟨a, b⟩ | ⟨q, q1, q2, q3, q4⟩
  · have e := zmsA_0 R m f (0, R (73 + 15 * f + 9), 0) 4 b
    rw [e] at fin
    rw [a]
    refine ⟨1, ?_⟩
    show wp_X5_widestHole_28 Q _ _ _ _ _ _ _
    unfold wp_X5_widestHole_28
    exact ⟨fun _ => fin _ _ rfl rfl, fun z => absurd rfl z⟩
  · have e := zmsA_1 R m f q (0, R (73 + 15 * f + 9), 0) 4 q1 q4
    rw [e] at fin
    rw [q2]
    obtain ⟨k1, k2, k3, k4, -⟩ := hQ q q1
    have km : (a3 (5 + q)).1 0 0 = nI (m q) := (k3 0 (by omega)).trans k2
    refine zl6 (wp_X5_widestHole_28 Q) (m q) (fun i v y1 y2 y3 y4 y5 => v = a3 ∧ y1 = nI f ∧ y2 = (zms R q f i (0, R (73 + 15 * f + 9), 0)).2.1 ∧ y3 = (zms R q f i (0, R (73 + 15 * f + 9), 0)).2.2 ∧ y4 = nI q ∧ y5 = nI i) ?_ 0 (Nat.zero_le _) a3 _ _ _ _ 0 ⟨rfl, rfl, rfl, rfl, rfl, rfl⟩
    rintro i B v y1 y2 y3 y4 y5 hi ⟨rfl, rfl, rfl, rfl, rfl, rfl⟩ hB
    unfold wp_X5_widestHole_28
    rw [zn_nI (by omega), km]
    have iq : vp_in (nI q) 4 := in_nI (by omega) (by decide)
    refine ⟨fun z => absurd z (nI_nm1 (by omega)), fun _ => ⟨iq, iq, fun hc => ?_, fun hc => ⟨iq, iq, ?_⟩⟩⟩
    · have hi := nI_stop (by omega) hi hc
      subst hi; exact fin _ _ rfl rfl
    · have hlt := nI_go (by omega) hi hc
      unfold wp_X3_at wp_X5_widestHole_107
      rw [nI_lmul, show nI (4 * i) + 0 = nI (4 * i + 0) from nI_addl _ _, show nI (4 * i) + 1 = nI (4 * i + 1) from nI_addl _ _, show nI (4 * i) + 2 = nI (4 * i + 2) from nI_addl _ _, zn_nI (by omega), zn_nI (by omega), zn_nI (by omega)]
      refine ⟨in_nI (by omega) (by decide), fun b1 e1 => ?_⟩
      rw [va_up_id] at e1
      subst e1
      have r0 : (b1 (5 + q)).1 8 (4 * i + 0) = R (441 + 140 * q + 4 * i + 0) := k4 i 0 hlt (by omega)
      have r1 : (b1 (5 + q)).1 8 (4 * i + 1) = R (441 + 140 * q + 4 * i + 1) := k4 i 1 hlt (by omega)
      have r2 : (b1 (5 + q)).1 8 (4 * i + 2) = R (441 + 140 * q + 4 * i + 2) := k4 i 2 hlt (by omega)
      rw [r0]
      refine ⟨fun hne y ey => ?_, fun he => ⟨iq, iq, in_nI (by omega) (by decide), fun b2 e2 => ?_⟩⟩
      · have hb : (R (441 + 140 * q + 4 * i + 0) == nI f) = false := by simpa using hne
        have es : zms R q f (i + 1) (0, R (73 + 15 * f + 9), 0) = zms R q f i (0, R (73 + 15 * f + 9), 0) := by
          show (if _ then _ else _) = _
          rw [hb]; rfl
        exact hB _ _ _ _ _ _ hlt ⟨rfl, rfl, by rw [es], by rw [es], rfl, by rw [ey, nI_1]⟩
      · rw [va_up_id] at e2
        subst e2
        intro x1 ex1
        refine ⟨iq, iq, in_nI (by omega) (by decide), fun b3 e3 => ?_⟩
        rw [va_up_id] at e3
        subst e3
        intro x2 ex2 y ey
        have hb : (R (441 + 140 * q + 4 * i + 0) == nI f) = true := by simpa using he
        have es : zms R q f (i + 1) (0, R (73 + 15 * f + 9), 0) = ((zms R q f i (0, R (73 + 15 * f + 9), 0)).1 + R (441 + 140 * q + 4 * i + 2), R (441 + 140 * q + 4 * i + 1) + R (441 + 140 * q + 4 * i + 2), zmax (zms R q f i (0, R (73 + 15 * f + 9), 0)).2.2 (R (441 + 140 * q + 4 * i + 1) - (zms R q f i (0, R (73 + 15 * f + 9), 0)).2.1)) := by
          show (if _ then _ else _) = _
          rw [hb]; rfl
        refine hB _ _ _ _ _ _ hlt ⟨rfl, rfl, by rw [es, ex2, r1, r2], by rw [es, ex1, r1], rfl, by rw [ey, nI_1]⟩
theorem p_missing {B : Nat} : pX_missing (Rel B) (Rel (B + 30000)) := by
  intro u r x1 x2 h
  replace h := h.up 30000
  have hs : Sim u.2.2.1 (r.1 3) (r.2 4) := h.2.2.1.1
  obtain ⟨n, nr, m, h0, hK, hF, hR, hT, hQ, hW, -⟩ := hs
  have h24 : n ≤ 24 := hF.2.1
  have h4 : (rN r 0 0).1 3 4 = nI n := hF.1
  have hm : ∀ q, q < 4 → m q ≤ 32 ∧ r.1 3 (433 + 140 * q) = nI (m q) := fun q hq => (hQ q hq).many
  have no : ((∀ f, f < n → ¬ x1 = nI f) ∨ (∀ k, k ≤ 1 → ¬ x2 = nI k)) → wp_X8_missing r x1 x2 (fun y r1 => (-1 : Int32) = y ∧ Rel (B + 30000) u r1) := by
    intro ho
    unfold wp_X8_missing wp_X8_missing_23
    intro r1 f1
    subst f1
    refine q8_isFlow n h4 h24 (fun f hf e => ⟨fun z => absurd z (by decide), fun _ => q8_in0 1 (by decide) (by decide) (fun k hk ek => ?_) (fun _ => ⟨fun z => absurd rfl z, fun _ => ⟨rfl, Rel_0 h⟩⟩)⟩) (fun _ => ⟨fun _ => ⟨rfl, Rel_0 h⟩, fun z => absurd rfl z⟩)
    rcases ho with ho | ho
    · exact absurd e (ho f hf)
    · exact absurd ek (ho k hk)
  have yes : ∀ (f k : Nat) (x : Int32), f < n → k ≤ 1 → x1 = nI f → x2 = nI k → ((k = 1 → x = zmax (zmsA (r.1 3) m f (0, r.1 3 (73 + 15 * f + 9), 0) 4).2.2 (r.1 3 (73 + 15 * f + 5) - (zmsA (r.1 3) m f (0, r.1 3 (73 + 15 * f + 9), 0) 4).2.1)) ∧ (k = 0 → x = r.1 3 (73 + 15 * f + 5) - r.1 3 (73 + 15 * f + 13) - (zmsA (r.1 3) m f (0, r.1 3 (73 + 15 * f + 9), 0) 4).1)) → wp_X8_missing r x1 x2 (fun y r1 => x = y ∧ Rel (B + 30000) u r1) := by
    intro f k x hf hk e1 e2 hx
    subst e1 e2
    unfold wp_X8_missing
    intro r1 f1
    subst f1
    refine q8_isFlow n h4 h24 (fun _ _ _ => ⟨fun z => absurd z (by decide), fun _ => q8_in0 1 (by decide) (by decide) (fun _ _ _ => ⟨fun _ => q8_flowAt f rfl ?_, fun z => absurd z (by decide)⟩) (fun ho => absurd rfl (ho k hk))⟩) (fun ho => absurd rfl (ho f hf))
    rw [nI_addl, zn_nI (by omega)]
    refine ⟨in_nI (by omega) (by decide), fun y ey => ?_⟩
    rw [ey]
    refine q8_missing50 (u := rN r 0 0) f m (by omega) hm (0, r.1 3 (73 + 15 * f + 9), 0) ⟨fun z => ⟨hx.1 ?_, Rel_0 h⟩, fun z => ⟨hx.2 ?_, Rel_0 h⟩⟩
    · have : k ≠ 0 := fun q => z (by rw [q]; rfl)
      omega
    · exact (nI_eq (by omega) (by decide)).mp (show nI k = nI 0 from z)
  unfold wp_X7_missing
  refine q7_isFlow n h0 h24 (fun f hf e => ⟨fun _ => ?_, fun z => absurd z (by decide)⟩) (fun ho => ⟨fun z => absurd rfl z, fun _ => no (Or.inl ho)⟩)
  refine ⟨fun z => ?_, fun z => ?_, fun a b => no (Or.inr (fun k hk ek => ?_))⟩
  · have y := yes f 0 _ hf (by omega) e z ⟨fun w => absurd w (by decide), fun _ => rfl⟩
    rw [e]
    refine q5_missingBytes (s := (0, r.1 3 (73 + 15 * f + 9), 0)) n f m hf hF hQ hW rfl (fun u1 e1 => ?_)
    have e1 : u1 = u := e1
    rw [e1, ← e]; exact y
  · have y := yes f 1 _ hf (by omega) e z ⟨fun _ => rfl, fun w => absurd w (by decide)⟩
    rw [e]
    refine q5_widestHole n f m hf hF hQ hW (fun u1 e1 => ?_)
    have e1 : u1 = u := e1
    rw [e1, ← e]; exact y
  · match k, hk, ek with
    | 0, _, ek => exact a ek
    | 1, _, ek => exact b ek
    | k + 2, hk, _ => omega
/-- the first two alike -/
def zpal (h : Nat → Int32) (n : Nat) (x : Int32) : Prop := (x = -1 ∧ ∀ f o, f < o → o < n → ¬ h f = h o) ∨ ∃ f o, f < o ∧ o < n ∧ h f = h o ∧ x = nI (100 * f + o) ∧ ∀ a b, a < b → b < n → (a < f ∨ (a = f ∧ b < o)) → ¬ h a = h b
theorem zpal_u {h : Nat → Int32} {n : Nat} {x y : Int32} (hx : zpal h n x) (hy : zpal h n y) : x = y := by
  rcases hx with ⟨x1, x2⟩ | ⟨f, o, x1, x2, x3, x4, x5⟩
  · rcases hy with ⟨y1, y2⟩ | ⟨g, p, y1, y2, y3, y4, y5⟩
    · rw [x1, y1]
    · exact absurd y3 (x2 g p y1 y2)
  · rcases hy with ⟨y1, y2⟩ | ⟨g, p, y1, y2, y3, y4, y5⟩
    · exact absurd x3 (y2 f o x1 x2)
    · have e1 : f = g := by
        rcases Nat.lt_trichotomy f g with q | q | q
        · exact absurd x3 (y5 f o x1 x2 (Or.inl q))
        · exact q
        · exact absurd y3 (x5 g p y1 y2 (Or.inl q))
      have e2 : o = p := by
        rcases Nat.lt_trichotomy o p with q | q | q
        · exact absurd x3 (y5 f o x1 x2 (Or.inr ⟨e1, q⟩))
        · exact q
        · exact absurd y3 (x5 g p y1 y2 (Or.inr ⟨e1.symm, q⟩))
      rw [x4, y4, e1, e2]
theorem q8_alike {r : RS} {Q : Int32 → RS → Prop} (n : Nat) (hn : r.1 3 4 = nI n) (h24 : n ≤ 24) (h : ∀ x, zpal (fun f => r.1 3 (73 + 15 * f + 14)) n x → Q x (rN r 0 0)) : wp_X8_alike r Q := by
  unfold wp_X8_alike
  intro r1 f1
  subst f1
  have hn' : (rN r 0 0).1 3 4 = nI n := hn
  refine zl2 (wp_X8_alike_7 Q) n (fun i v y => v = rN r 0 0 ∧ y = nI i ∧ ∀ a b, a < i → a < b → b < n → ¬ r.1 3 (73 + 15 * a + 14) = r.1 3 (73 + 15 * b + 14)) ?_ 0 (Nat.zero_le _) _ 0 ⟨rfl, rfl, fun a b ha => absurd ha (Nat.not_lt_zero a)⟩
  rintro i B v y hi ⟨rfl, rfl, hp⟩ hB
  unfold wp_X8_alike_7
  rw [hn']
  refine ⟨fun hc => ?_, fun hc x ex => ?_⟩
  · have hi := nI_stop (by omega) hi hc
    subst hi
    exact h _ (Or.inl ⟨rfl, fun f o h1 h2 => hp f o (by omega) h1 h2⟩)
  · have hlt := nI_go (by omega) hi hc
    rw [nI_1] at ex
    subst ex
    refine zl3 (wp_X8_alike_21 Q B) n (fun k w z1 z2 => w = rN r 0 0 ∧ z1 = nI i ∧ z2 = nI k ∧ i < k ∧ ∀ b, i < b → b < k → ¬ r.1 3 (73 + 15 * i + 14) = r.1 3 (73 + 15 * b + 14)) ?_ (i + 1) (by omega) _ _ _ ⟨rfl, rfl, rfl, by omega, fun b h1 h2 => absurd h2 (by omega)⟩
    rintro k B2 w z1 z2 hk ⟨rfl, rfl, rfl, hik, hz⟩ hB2
    unfold wp_X8_alike_21
    rw [hn']
    refine ⟨fun hc2 y ey => ?_, fun hc2 => q8_flowAt i rfl ?_⟩
    · have hk := nI_stop (by omega) hk hc2
      subst hk
      refine hB _ _ hlt ⟨rfl, by rw [ey, nI_1], fun a b h1 h2 h3 => ?_⟩
      by_cases e : a = i
      · subst e; exact hz b h2 h3
      · exact hp a b (by omega) h2 h3
    · have hlt2 := nI_go (by omega) hk hc2
      rw [nI_addl, zn_nI (by omega)]
      refine ⟨in_nI (by omega) (by decide), q8_flowAt k rfl ?_⟩
      rw [nI_addl, zn_nI (by omega)]
      refine ⟨in_nI (by omega) (by decide), fun hne y ey => ?_, fun he => ?_⟩
      · refine hB2 _ _ _ hlt2 ⟨rfl, rfl, by rw [ey, nI_1], by omega, fun b h1 h2 => ?_⟩
        by_cases e : b = k
        · subst e; exact hne
        · exact hz b h1 (by omega)
      · rw [nI_lmul, nI_add]
        refine h _ (Or.inr ⟨i, k, hik, hlt2, he, rfl, fun a b h1 h2 h3 => ?_⟩)
        rcases h3 with h3 | ⟨rfl, h3⟩
        · exact hp a b h3 h1 h2
        · exact hz b h1 h3
/-- RxQueues' row for every flow is no part of what stands -/
theorem Rel_6 {B : Nat} {u : TS} {r : RS} {g : Nat → Int32} (h : Rel B u r) : Rel B (tM u (rI u.1 6 g)) r := h
theorem p_alike {B : Nat} : pX_alike (Rel B) (Rel (B + 30000)) := by
  intro u r h
  replace h := h.up 30000
  have hs : Sim u.2.2.1 (r.1 3) (r.2 4) := h.2.2.1.1
  obtain ⟨n, nr, m, h0, hK, hF, -⟩ := hs
  have h24 : n ≤ 24 := hF.2.1
  have fin : ∀ (x : Int32) (g : Nat → Int32), zpal (fun f => r.1 3 (73 + 15 * f + 14)) n x → wp_X8_alike r (fun y r1 => x = y ∧ Rel (B + 30000) (tM u (rI u.1 6 g)) r1) := by
    intro x g hx
    exact q8_alike n hF.1 h24 (fun y hy => ⟨zpal_u hx hy, Rel_6 (Rel_0 h)⟩)
  unfold wp_X7_alike
  refine zl2 (wp_X7_alike_2 _) n (fun i v y => (∃ g : Nat → Int32, v = tM u (rI u.1 6 g) ∧ ∀ f, f < i → g f = r.1 3 (73 + 15 * f + 14)) ∧ y = nI i) ?_ 0 (Nat.zero_le _) u 0 ⟨⟨u.1.1 6, by rw [rI_id]; rfl, fun f hf => absurd hf (Nat.not_lt_zero f)⟩, rfl⟩
  rintro i B1 v y hi ⟨⟨g, rfl, hg⟩, rfl⟩ hB1
  unfold wp_X7_alike_2
  have hn : ((tM u (rI u.1 6 g)).2.2.1 2).1 0 0 = nI n := h0
  rw [hn]
  refine ⟨fun hc => ?_, fun hc => ?_⟩
  · have hi := nI_stop (by omega) hi hc
    subst hi
    have g6 : (tM u (rI u.1 6 g)).1.1 6 = g := rI_s _ _ _
    refine zl2 (wp_X7_alike_38 _) i (fun j v y => v = tM u (rI u.1 6 g) ∧ y = nI j ∧ ∀ a b, a < j → a < b → b < i → ¬ r.1 3 (73 + 15 * a + 14) = r.1 3 (73 + 15 * b + 14)) ?_ 0 (Nat.zero_le _) _ 0 ⟨rfl, rfl, fun a b ha => absurd ha (Nat.not_lt_zero a)⟩
    rintro j B2 v y hj ⟨rfl, rfl, hp⟩ hB2
    unfold wp_X7_alike_38
    rw [hn]
    refine ⟨fun hc => ?_, fun hc x ex => ?_⟩
    · have hj := nI_stop (by omega) hj hc
      subst hj
      exact fin _ g (Or.inl ⟨rfl, fun f o h1 h2 => hp f o (by omega) h1 h2⟩)
    · have hlt := nI_go (by omega) hj hc
      rw [nI_1] at ex
      subst ex
      refine zl3 (wp_X7_alike_56 _ B2) i (fun k w z1 z2 => w = tM u (rI u.1 6 g) ∧ z1 = nI j ∧ z2 = nI k ∧ j < k ∧ ∀ b, j < b → b < k → ¬ r.1 3 (73 + 15 * j + 14) = r.1 3 (73 + 15 * b + 14)) ?_ (j + 1) (by omega) _ _ _ ⟨rfl, rfl, rfl, by omega, fun b h1 h2 => absurd h2 (by omega)⟩
      rintro k B3 w z1 z2 hk ⟨rfl, rfl, rfl, hjk, hz⟩ hB3
      unfold wp_X7_alike_56
      rw [hn]
      refine ⟨fun hc2 y ey => ?_, fun hc2 => ?_⟩
      · have hk := nI_stop (by omega) hk hc2
        subst hk
        refine hB2 _ _ hlt ⟨rfl, by rw [ey, nI_1], fun a b h1 h2 h3 => ?_⟩
        by_cases e : a = j
        · subst e; exact hz b h2 h3
        · exact hp a b (by omega) h2 h3
      · have hlt2 := nI_go (by omega) hk hc2
        rw [zn_nI (by omega), zn_nI (by omega), g6, hg k hlt2, hg j (by omega)]
        refine ⟨in_nI (by omega) (by decide), in_nI (by omega) (by decide), fun hne y ey => ?_, fun he => ?_⟩
        · refine hB3 _ _ _ hlt2 ⟨rfl, rfl, by rw [ey, nI_1], by omega, fun b h1 h2 => ?_⟩
          by_cases e : b = k
          · subst e; exact fun z => hne z.symm
          · exact hz b h1 (by omega)
        · rw [nI_lmul, nI_add]
          refine fin _ g (Or.inr ⟨j, k, hjk, hlt2, he.symm, rfl, fun a b h1 h2 h3 => ?_⟩)
          rcases h3 with h3 | ⟨rfl, h3⟩
          · exact hp a b h3 h1 h2
          · exact hz b h1 h3
  · have hlt := nI_go (by omega) hi hc
    refine q5_hashFlow i rfl (by omega) (fun u1 e1 => ?_)
    have hh := Sim.hash (cs := u.2.2.1) hK hF hlt
    have e1 : u1 = tM u (rI u.1 6 g) := e1
    subst e1
    rw [zn_nI (by omega)]
    refine ⟨in_nI (by omega) (by decide), fun u2 e2 y ey => hB1 _ _ hlt ⟨⟨upd g i (r.1 3 (73 + 15 * i + 14)), ?_, fun f hf => ?_⟩, by rw [ey, nI_1]⟩⟩
    · rw [e2]
      show tM (tM u (rI u.1 6 g)) (rI (rI u.1 6 g) 6 (upd ((rI u.1 6 g).1 6) i _)) = _
      rw [rI_rI, rI_s]
      have hh' : zhf (((tM u (rI u.1 6 g)).2.2.1 1).1 1) (((tM u (rI u.1 6 g)).2.2.1 1).1 0 0) (((tM u (rI u.1 6 g)).2.2.1 2).1 1 (0 * 24 + i)) (((tM u (rI u.1 6 g)).2.2.1 2).1 1 (1 * 24 + i)) (((tM u (rI u.1 6 g)).2.2.1 2).1 1 (2 * 24 + i)) (((tM u (rI u.1 6 g)).2.2.1 2).1 1 (3 * 24 + i)) (((tM u (rI u.1 6 g)).2.2.1 2).1 1 (4 * 24 + i)) = r.1 3 (73 + 15 * i + 14) := hh
      rw [hh']
      rfl
    · by_cases e : f = i
      · subst e; rw [pk_us]
      · rw [pk_un e]; exact hg f (by omega)
