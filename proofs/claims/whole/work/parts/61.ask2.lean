-- the pure side: entries, wishes, queues asked for
theorem and15 (x : Int32) : x &&& 15 = nI (x.toBitVec.toNat % 16) := by
  apply Int32.toBitVec_inj.mp
  apply BitVec.eq_of_toNat_eq
  have e : (15 : Int32).toBitVec.toNat = 2 ^ 4 - 1 := by decide
  rw [Int32.toBitVec_and, BitVec.toNat_and, e, Nat.and_two_pow_sub_one_eq_mod]
  show x.toBitVec.toNat % 2 ^ 4 = (BitVec.ofNat 32 (x.toBitVec.toNat % 16)).toNat
  rw [BitVec.toNat_ofNat]
  omega
def zent (R : Nat → Int32) (f : Nat) : Nat := (R (73 + 15 * f + 14)).toBitVec.toNat % 16
theorem zent_lt (R : Nat → Int32) (f : Nat) : zent R f < 16 := Nat.mod_lt _ (by decide)
def zwish (c R : Nat → Int32) (f : Nat) : Int32 := if c (13 * 24 + f) = -1 then R (23 + zent R f) else c (13 * 24 + f)
theorem q8_queueAt {x0 : Int32} {Q : Int32 → Prop} (q : Nat) (e : x0 = nI q) (h : Q (nI (433 + 140 * q))) : wp_X8_queueAt x0 Q := by
  subst e
  unfold wp_X8_queueAt
  rw [nI_lmul, nI_ladd]
  exact h
theorem q8_packetAt {x0 x1 : Int32} {Q : Int32 → Prop} (q i : Nat) (e : x0 = nI q) (e1 : x1 = nI i) (h : Q (nI (441 + 140 * q + 4 * i))) : wp_X8_packetAt x0 x1 Q := by
  subst e1
  unfold wp_X8_packetAt
  refine q8_queueAt q e ?_
  rw [nI_lmul, nI_addl, nI_add, show 433 + 140 * q + 8 + 4 * i = 441 + 140 * q + 4 * i by omega]
  exact h
theorem q8_entryOf {u : RS} {x1 : Int32} {Q : Int32 → RS → Prop} (f : Nat) (e : x1 = nI f) (hf : f < 24) (h : Q (nI (zent (u.1 3) f)) u) : wp_X8_entryOf u x1 Q := by
  unfold wp_X8_entryOf
  refine q8_flowAt f e ?_
  rw [nI_addl, zn_nI (by omega), and15]
  exact ⟨in_nI (by omega) (by decide), h⟩
theorem q8_wishOf {u : RS} {x1 : Int32} {Q : Int32 → RS → Prop} (n nr f : Nat) (c : Nat → Int32) (e : x1 = nI f) (hn : n ≤ 24) (hf : f < n) (hR : rRel n c (u.1 3) nr) (h : Q (zwish c (u.1 3) f) u) : wp_X8_wishOf u x1 Q := by
  obtain ⟨h1, h2, h3, h4, h5, h6⟩ := hR
  subst e
  unfold wp_X8_wishOf wp_X8_wishOf_38
  unfold zwish at h
  refine q8_ruleOf nr h2 h1 (fun r hr er => ⟨fun _ => q8_ruleAt r rfl ?_, fun z => absurd z (nI_nm1 (by omega))⟩) (fun hno => ⟨fun z => absurd rfl z, fun _ => q8_entryOf f rfl (by omega) ?_⟩)
  · obtain ⟨g, g1, g2, g3, g4, g5⟩ := h4 r hr
    have gf : g = f := (nI_eq (by omega) (by omega)).mp (g2.symm.trans er)
    subst gf
    have hne : ¬ c (13 * 24 + g) = -1 := by simpa [zhasR] using g3
    rw [if_neg hne] at h
    rw [nI_addl, zn_nI (by omega), g4]
    exact ⟨in_nI (by omega) (by decide), h⟩
  · have hz : zhasR c f = false := by
      cases e : zhasR c f with
      | false => rfl
      | true =>
        obtain ⟨r, r1, r2⟩ := h5 f hf e
        exact absurd r2 (hno r r1)
    have hp : c (13 * 24 + f) = -1 := by simpa [zhasR] using hz
    rw [if_pos hp] at h
    have := zent_lt (u.1 3) f
    rw [nI_ladd, zn_nI (by omega)]
    exact ⟨in_nI (by omega) (by decide), h⟩
theorem q5_entryOf {cs : Nat → RS} {R : Nat → Int32} {x1 : Int32} {Q : Int32 → (Nat → RS) → Prop} (n f : Nat) (e : x1 = nI f) (hK : sK (cs 1) R) (hF : sF n ((cs 2).1 1) R) (hf : f < n) (h : Q (nI (zent R f)) cs) : wp_X5_entryOf cs x1 Q := by
  have h24 : n ≤ 24 := hF.2.1
  unfold wp_X5_entryOf wp_X7_entryOfHash
  refine q5_hashFlow f e (by omega) ?_
  rw [Sim.hash hK hF hf, and15]
  exact h
theorem q5_wishOf {cs : Nat → RS} {R : Nat → Int32} {x1 : Int32} {Q : Int32 → (Nat → RS) → Prop} (n f : Nat) (e : x1 = nI f) (hK : sK (cs 1) R) (hF : sF n ((cs 2).1 1) R) (hT : sT (cs 3) R) (hf : f < n) (h : Q (zwish ((cs 2).1 1) R f) cs) : wp_X5_wishOf cs x1 Q := by
  have h24 : n ≤ 24 := hF.2.1
  unfold wp_X5_wishOf wp_X5_wishOf_33
  refine q0_get 13 f rfl e (by omega) (by omega) (fun c1 d1 => ?_)
  rw [va_up_id] at d1
  subst d1
  unfold zwish at h
  refine ⟨fun z => q5_entryOf n f e hK hF hf ?_, fun z => ?_⟩
  · rw [if_pos z] at h
    have := zent_lt R f
    rw [zn_nI (by omega), (hT _ this).1]
    exact ⟨in_nI (by omega) (by decide), h⟩
  · rw [if_neg z] at h
    exact h
/-- packets of a flow among the first k of a queue -/
theorem zct_s (p : Nat → Bool) (n : Nat) : zct p (n + 1) = zct p n + if p n then 1 else 0 := rfl
theorem zcq_s (R : Nat → Int32) (k q f : Nat) : zcq R (k + 1) q f = zcq R k q f + if R (441 + 140 * q + 4 * k + 0) == nI f then 1 else 0 := rfl
theorem q8_queueOf {u : RS} {x1 : Int32} {Q : Int32 → RS → Prop} (f : Nat) (m : Nat → Nat) (e : x1 = nI f) (hm : ∀ q, q < 4 → m q ≤ 32 ∧ u.1 3 (433 + 140 * q) = nI (m q)) (h1 : ∀ q, q < 4 → 0 < zcq (u.1 3) (m q) q f → Q (nI q) u) (h2 : (∀ q, q < 4 → zcq (u.1 3) (m q) q f = 0) → Q (-1) u) : wp_X8_queueOf u x1 Q := by
  subst e
  unfold wp_X8_queueOf
  refine zl4 (wp_X8_queueOf_4 Q) 4 (fun i v y1 y2 y3 => v = u ∧ y1 = nI f ∧ y3 = nI i ∧ ((y2 = -1 ∧ ∀ q, q < i → zcq (u.1 3) (m q) q f = 0) ∨ ∃ q, q < i ∧ y2 = nI q ∧ 0 < zcq (u.1 3) (m q) q f)) ?_ 0 (Nat.zero_le _) u _ (-1) 0 ⟨rfl, rfl, rfl, Or.inl ⟨rfl, fun q hq => absurd hq (Nat.not_lt_zero q)⟩⟩
  rintro i B v y1 y2 y3 hi ⟨rfl, rfl, rfl, hp⟩ hB
  unfold wp_X8_queueOf_4
  refine ⟨fun hc => ?_, fun hc => ?_⟩
  · have hi := nI_stop (N := 4) (by decide) hi hc
    subst hi
    rcases hp with ⟨rfl, hp⟩ | ⟨q, q1, rfl, q3⟩
    · exact h2 hp
    · exact h1 q q1 q3
  · have hlt := nI_go (N := 4) (by decide) hi hc
    obtain ⟨m1, m2⟩ := hm i hlt
    refine zl5 (wp_X8_queueOf_12 Q B) (m i) (fun k w z1 z2 z3 z4 => w = v ∧ z1 = nI f ∧ z3 = nI i ∧ z4 = nI k ∧ ((z2 = nI i ∧ 0 < zcq (v.1 3) k i f) ∨ (z2 = y2 ∧ zcq (v.1 3) k i f = 0))) ?_ 0 (Nat.zero_le _) v _ y2 _ 0 ⟨rfl, rfl, rfl, rfl, Or.inr ⟨rfl, rfl⟩⟩
    rintro k B2 w z1 z2 z3 z4 hk ⟨rfl, rfl, rfl, rfl, hz⟩ hB2
    unfold wp_X8_queueOf_12
    refine q8_queueAt i rfl ?_
    rw [zn_nI (by omega), m2]
    refine ⟨in_nI (by omega) (by decide), fun hc2 y ey => ?_, fun hc2 => ?_⟩
    · have hk := nI_stop (by omega) hk hc2
      subst hk
      refine hB _ _ _ _ hlt ⟨rfl, rfl, by rw [ey, nI_1], ?_⟩
      rcases hz with ⟨rfl, hz⟩ | ⟨rfl, hz⟩
      · exact Or.inr ⟨i, by omega, rfl, hz⟩
      · rcases hp with ⟨rfl, hp⟩ | ⟨q, q1, rfl, q3⟩
        · refine Or.inl ⟨rfl, fun q hq => ?_⟩
          by_cases e : q = i
          · rw [e]; exact hz
          · exact hp q (by omega)
        · exact Or.inr ⟨q, by omega, rfl, q3⟩
    · have hlt2 := nI_go (by omega) hk hc2
      refine q8_packetAt i k rfl rfl ?_
      rw [zn_nI (by omega)]
      unfold wp_X8_queueOf_46
      refine ⟨in_nI (by omega) (by decide), fun hne y ey => ?_, fun he y ey => ?_⟩
      · refine hB2 _ _ _ _ _ hlt2 ⟨rfl, rfl, rfl, by rw [ey, nI_1], ?_⟩
        have hb : (w.1 3 (441 + 140 * i + 4 * k + 0) == nI f) = false := by simpa using hne
        rw [zcq_s, hb]
        simpa using hz
      · refine hB2 _ _ _ _ _ hlt2 ⟨rfl, rfl, rfl, by rw [ey, nI_1], Or.inl ⟨rfl, ?_⟩⟩
        have hb : (w.1 3 (441 + 140 * i + 4 * k + 0) == nI f) = true := by simpa using he
        rw [zcq_s, hb]
        simp
theorem q8_packetsOf {u : RS} {x1 : Int32} {Q : Int32 → RS → Prop} (f : Nat) (m : Nat → Nat) (e : x1 = nI f) (hm : ∀ q, q < 4 → m q ≤ 32 ∧ u.1 3 (433 + 140 * q) = nI (m q)) (h : Q (nI (zcq (u.1 3) (m 0) 0 f + zcq (u.1 3) (m 1) 1 f + zcq (u.1 3) (m 2) 2 f + zcq (u.1 3) (m 3) 3 f)) u) : wp_X8_packetsOf u x1 Q := by
  subst e
  unfold wp_X8_packetsOf
  refine zl4 (wp_X8_packetsOf_4 Q) 4 (fun i v y1 y2 y3 => v = u ∧ y1 = nI f ∧ y3 = nI i ∧ y2 = nI ((if 0 < i then zcq (u.1 3) (m 0) 0 f else 0) + (if 1 < i then zcq (u.1 3) (m 1) 1 f else 0) + (if 2 < i then zcq (u.1 3) (m 2) 2 f else 0) + (if 3 < i then zcq (u.1 3) (m 3) 3 f else 0))) ?_ 0 (Nat.zero_le _) u _ 0 0 ⟨rfl, rfl, rfl, rfl⟩
  rintro i B v y1 y2 y3 hi ⟨rfl, rfl, rfl, rfl⟩ hB
  unfold wp_X8_packetsOf_4
  refine ⟨fun hc => ?_, fun hc => ?_⟩
  · have hi := nI_stop (N := 4) (by decide) hi hc
    subst hi
    simpa using h
  · have hlt := nI_go (N := 4) (by decide) hi hc
    obtain ⟨m1, m2⟩ := hm i hlt
    refine zl5 (wp_X8_packetsOf_12 Q B) (m i) (fun k w z1 z2 z3 z4 => w = v ∧ z1 = nI f ∧ z3 = nI i ∧ z4 = nI k ∧ z2 = nI ((if 0 < i then zcq (v.1 3) (m 0) 0 f else 0) + (if 1 < i then zcq (v.1 3) (m 1) 1 f else 0) + (if 2 < i then zcq (v.1 3) (m 2) 2 f else 0) + (if 3 < i then zcq (v.1 3) (m 3) 3 f else 0) + zcq (v.1 3) k i f)) ?_ 0 (Nat.zero_le _) v _ _ _ 0 ⟨rfl, rfl, rfl, rfl, rfl⟩
    rintro k B2 w z1 z2 z3 z4 hk ⟨rfl, rfl, rfl, rfl, rfl⟩ hB2
    unfold wp_X8_packetsOf_12
    refine q8_queueAt i rfl ?_
    rw [zn_nI (by omega), m2]
    refine ⟨in_nI (by omega) (by decide), fun hc2 y ey => ?_, fun hc2 => ?_⟩
    · have hk := nI_stop (by omega) hk hc2
      subst hk
      refine hB _ _ _ _ hlt ⟨rfl, rfl, by rw [ey, nI_1], ?_⟩
      match i, hlt with
      | 0, _ => simp
      | 1, _ => simp
      | 2, _ => simp
      | 3, _ => simp
    · have hlt2 := nI_go (by omega) hk hc2
      refine q8_packetAt i k rfl rfl ?_
      rw [zn_nI (by omega)]
      unfold wp_X8_packetsOf_47
      refine ⟨in_nI (by omega) (by decide), fun hne y ey z ez => ?_, fun he y ey z ez => ?_⟩
      · refine hB2 _ _ _ _ _ hlt2 ⟨rfl, rfl, rfl, by rw [ez, nI_1], ?_⟩
        have hb : (w.1 3 (441 + 140 * i + 4 * k + 0) == nI f) = false := by simpa using hne
        rw [zcq_s, hb, ey]
        simp
      · refine hB2 _ _ _ _ _ hlt2 ⟨rfl, rfl, rfl, by rw [ez, nI_1], ?_⟩
        have hb : (w.1 3 (441 + 140 * i + 4 * k + 0) == nI f) = true := by simpa using he
        rw [zcq_s, hb, ey, nI_1]
        simp [Nat.add_assoc]
theorem sQ.many {n q m : Nat} {o : RS} {R : Nat → Int32} (h : sQ n q m o R) : m ≤ 32 ∧ R (433 + 140 * q) = nI m := ⟨h.1, h.2.1⟩
/-- where the packets of a flow are, on both sides -/
theorem k_queueOf {r : RS} {n f : Nat} {m : Nat → Nat} {c : Nat → Int32} {Q : Int32 → RS → Prop} (hm : ∀ q, q < 4 → m q ≤ 32 ∧ r.1 3 (433 + 140 * q) = nI (m q)) (hW : sW n m c (r.1 3)) (hf : f < n) (h : Q (c (7 * 24 + f)) r) : wp_X8_queueOf r (nI f) Q := by
  obtain ⟨-, w2⟩ := hW f hf
  refine q8_queueOf f m rfl hm (fun q hq hpos => ?_) (fun hno => ?_)
  · rcases w2 with ⟨-, b⟩ | ⟨p, p1, p2, p3, p4⟩
    · exact absurd (b q hq) (by omega)
    · by_cases e : q = p
      · rw [e, ← p2]; exact h
      · exact absurd (p4 q hq e) (by omega)
  · rcases w2 with ⟨a, -⟩ | ⟨p, p1, p2, p3, p4⟩
    · rw [← a]; exact h
    · exact absurd (hno p p1) (by omega)
theorem q8_packets {u : RS} {Q : Int32 → RS → Prop} (h : Q (zsum (fun q => u.1 3 (433 + 140 * q)) 4) u) : wp_X8_packets u Q := by
  unfold wp_X8_packets
  refine zl3 (wp_X8_packets_4 Q) 4 (fun i v y1 y2 => v = u ∧ y1 = zsum (fun q => u.1 3 (433 + 140 * q)) i ∧ y2 = nI i) ?_ 0 (Nat.zero_le _) u 0 0 ⟨rfl, rfl, rfl⟩
  rintro i B v y1 y2 hi ⟨rfl, rfl, rfl⟩ hB
  unfold wp_X8_packets_4
  refine ⟨fun hc => ?_, fun hc => ?_⟩
  · have hi := nI_stop (N := 4) (by decide) hi hc
    subst hi; exact h
  · have hlt := nI_go (N := 4) (by decide) hi hc
    refine q8_queueAt i rfl ?_
    rw [zn_nI (by omega)]
    exact ⟨in_nI (by omega) (by decide), fun y ey z ez => hB _ _ _ hlt ⟨rfl, by rw [ey]; rfl, by rw [ez, nI_1]⟩⟩
theorem q5_packetsWaiting {cs : Nat → RS} {Q : Int32 → (Nat → RS) → Prop} (h : Q (zsum (fun q => (cs (5 + q)).1 0 0) 4) cs) : wp_X5_packetsWaiting cs Q := by
  unfold wp_X5_packetsWaiting
  refine zl3 (wp_X5_packetsWaiting_4 Q) 4 (fun i v y1 y2 => v = cs ∧ y1 = zsum (fun q => (cs (5 + q)).1 0 0) i ∧ y2 = nI i) ?_ 0 (Nat.zero_le _) cs 0 0 ⟨rfl, rfl, rfl⟩
  rintro i B v y1 y2 hi ⟨rfl, rfl, rfl⟩ hB
  unfold wp_X5_packetsWaiting_4
  refine ⟨fun hc => ?_, fun hc => ?_⟩
  · have hi := nI_stop (N := 4) (by decide) hi hc
    subst hi; exact h
  · have hlt := nI_go (N := 4) (by decide) hi hc
    rw [zn_nI (by omega)]
    exact ⟨in_nI (by omega) (by decide), in_nI (by omega) (by decide), fun y ey z ez => hB _ _ _ hlt ⟨rfl, by rw [ey]; rfl, by rw [ez, nI_1]⟩⟩
theorem q5_callsInAll {cs : Nat → RS} {Q : Int32 → (Nat → RS) → Prop} (h : Q (zsum (fun q => (cs (5 + q)).1 1 0) 4) cs) : wp_X5_callsInAll cs Q := by
  unfold wp_X5_callsInAll
  refine zl3 (wp_X5_callsInAll_4 Q) 4 (fun i v y1 y2 => v = cs ∧ y1 = zsum (fun q => (cs (5 + q)).1 1 0) i ∧ y2 = nI i) ?_ 0 (Nat.zero_le _) cs 0 0 ⟨rfl, rfl, rfl⟩
  rintro i B v y1 y2 hi ⟨rfl, rfl, rfl⟩ hB
  unfold wp_X5_callsInAll_4
  refine ⟨fun hc => ?_, fun hc => ?_⟩
  · have hi := nI_stop (N := 4) (by decide) hi hc
    subst hi; exact h
  · have hlt := nI_go (N := 4) (by decide) hi hc
    rw [zn_nI (by omega)]
    exact ⟨in_nI (by omega) (by decide), in_nI (by omega) (by decide), fun y ey z ez => hB _ _ _ hlt ⟨rfl, by rw [ey]; rfl, by rw [ez, nI_1]⟩⟩
theorem Sim.packets {cs : Nat → RS} {R : Nat → Int32} {S : Nat → Int64} (h : Sim cs R S) : zsum (fun q => (cs (5 + q)).1 0 0) 4 = zsum (fun q => R (433 + 140 * q)) 4 := by
  obtain ⟨n, nr, m, -, -, -, -, -, hQ, -⟩ := h
  exact zsum_eq (fun q hq => (hQ q hq).2.2.1 0 (by omega))
theorem Sim.calls {cs : Nat → RS} {R : Nat → Int32} {S : Nat → Int64} (h : Sim cs R S) : zsum (fun q => (cs (5 + q)).1 1 0) 4 = R 10 := by
  obtain ⟨n, nr, m, -, -, -, -, -, hQ, -, -, -, -, hA⟩ := h
  rw [hA.2.2.2.2]
  exact zsum_eq (fun q hq => (hQ q hq).2.2.1 3 (by omega))
theorem Sim.rules {cs : Nat → RS} {R : Nat → Int32} {S : Nat → Int64} (h : Sim cs R S) : ∃ n nr, (cs 2).1 0 0 = nI n ∧ R 4 = nI n ∧ n ≤ 24 ∧ R 5 = nI nr ∧ zct (zhasR ((cs 2).1 1)) n = nr := by
  obtain ⟨n, nr, m, h0, -, hF, hR, -⟩ := h
  exact ⟨n, nr, h0, hF.1, hF.2.1, hR.1.2.1, hR.1.2.2.1⟩
