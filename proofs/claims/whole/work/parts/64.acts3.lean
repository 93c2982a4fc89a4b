-- the pure side: which cells of the class each part of Sim looks at; reads, gap
theorem zrem.row {r v : RS} {m : Nat} {s : Int32} (hz : zrem r m s v) : v.1 3 = r.1 3 ∧ v.2 4 = r.2 4 := by
  obtain ⟨p, d, -, z1, z2, -⟩ := hz
  exact ⟨z1 3 (by decide) (by decide) (by decide), z2 4 (by decide)⟩
theorem zhasR_fc {n : Nat} {c d : Nat → Int32} (h : ∀ f, f < n → d (13 * 24 + f) = c (13 * 24 + f)) : ∀ f, f < n → zhasR d f = zhasR c f := by
  intro f hf
  unfold zhasR
  rw [h f hf]
theorem rRel.fc {n nr : Nat} {c d R : Nat → Int32} (hr : rRel n c R nr) (h3 : ∀ f, f < n → d (13 * 24 + f) = c (13 * 24 + f)) (h4 : ∀ f, f < n → d (14 * 24 + f) = c (14 * 24 + f)) : rRel n d R nr := by
  obtain ⟨k1, k2, k3, k4, k5, k6⟩ := hr
  have hz := zhasR_fc h3
  refine ⟨k1, k2, by rw [zct_eq hz]; exact k3, fun r hr => ?_, fun f hf hb => k5 f hf (by rw [← hz f hf]; exact hb), k6⟩
  obtain ⟨f, f1, f2, f3, f4, f5⟩ := k4 r hr
  exact ⟨f, f1, f2, by rw [hz f f1]; exact f3, by rw [h3 f f1]; exact f4, by rw [h4 f f1]; exact f5⟩
theorem sR.fc {n nr : Nat} {c d R : Nat → Int32} (hr : sR n nr c R) (h3 : ∀ f, f < n → d (13 * 24 + f) = c (13 * 24 + f)) (h4 : ∀ f, f < n → d (14 * 24 + f) = c (14 * 24 + f)) : sR n nr d R := by
  obtain ⟨r1, r2, r3⟩ := hr
  refine ⟨r1.fc h3 h4, r2, fun f hf hz => ?_⟩
  rw [h4 f hf]
  exact r3 f hf (by rw [← zhasR_fc h3 f hf]; exact hz)
theorem sW.fc {n : Nat} {m : Nat → Nat} {c d R : Nat → Int32} (hW : sW n m c R) (h7 : ∀ f, f < n → d (7 * 24 + f) = c (7 * 24 + f)) (h8 : ∀ f, f < n → d (8 * 24 + f) = c (8 * 24 + f)) : sW n m d R := by
  intro f hf
  rw [h7 f hf, h8 f hf]
  exact hW f hf
theorem sA.fc {n : Nat} {c d R : Nat → Int32} (hA : sA n c R) (h : ∀ k f, k = 10 ∨ k = 11 ∨ k = 12 ∨ k = 18 → f < n → d (k * 24 + f) = c (k * 24 + f)) : sA n d R := by
  obtain ⟨a1, a2, a3, a4, a5⟩ := hA
  refine ⟨?_, ?_, ?_, ?_, a5⟩
  · rw [a1]; exact zsum_eq (fun i hi => (h 10 i (by omega) hi).symm)
  · rw [a2]; exact zsum_eq (fun i hi => (h 11 i (by omega) hi).symm)
  · rw [a3]; exact zsum_eq (fun i hi => (h 12 i (by omega) hi).symm)
  · rw [a4]; exact zsum_eq (fun i hi => (h 18 i (by omega) hi).symm)
theorem zrow_inj : ∀ a : Nat, a < 14 → ∀ b : Nat, b < 14 → zrow a = zrow b → a = b := by decide +kernel
theorem zrow_ne : ∀ a : Nat, a < 14 → zrow a ≠ 13 ∧ zrow a ≠ 14 ∧ zrow a ≠ 7 ∧ zrow a ≠ 8 ∧ zrow a < 20 := by decide +kernel
/-- one number of a flow, on both sides -/
theorem sF.put {n f k : Nat} {c R : Nat → Int32} {x : Int32} (hF : sF n c R) (hf : f < n) (hk : k < 14) (h5 : 5 ≤ k) (hn : k = 5 → ∃ y, y ≤ 1000000000 ∧ x = nI y) (hr : k = 11 → x = -1 ∨ ∃ q, q < 4 ∧ x = nI q) : sF n (upd c (zrow k * 24 + f) x) (upd R (73 + 15 * f + k) x) := by
  obtain ⟨f1, f2, f3, f4, f5, f6, f7, f8⟩ := hF
  have fr : ∀ i, i ≠ 73 + 15 * f + k → upd R (73 + 15 * f + k) x i = R i := fun i hi => pk_un hi
  have hz := (zrow_ne k hk).2.2.2.2
  refine ⟨by rw [fr _ (by omega)]; exact f1, f2, fun j a hj ha => ?_, fun j a hj ha => by rw [fr _ (by omega)]; exact f4 j a hj ha, fun j hj => ?_, fun j hj => ?_, fun j hj => ?_, fun j a h1 h2 h3 => ?_⟩
  · have hza := (zrow_ne a ha).2.2.2.2
    by_cases e : j = f ∧ a = k
    · obtain ⟨rfl, rfl⟩ := e
      rw [pk_us, pk_us]
    · rw [fr _ (by omega), pk_un]
      · exact f3 j a hj ha
      · intro z
        have hzz : zrow a = zrow k := by omega
        have := zrow_inj a ha k hk hzz
        omega
  · by_cases e : 73 + 15 * j + 5 = 73 + 15 * f + k
    · have : k = 5 := by omega
      rw [e, pk_us]; exact hn this
    · rw [fr _ e]; exact f5 j hj
  · by_cases e : 73 + 15 * j + 11 = 73 + 15 * f + k
    · have : k = 11 := by omega
      rw [e, pk_us]; exact hr this
    · rw [fr _ e]; exact f6 j hj
  · rw [fr 0 (by omega), fr 1 (by omega), fr 2 (by omega), fr 3 (by omega), fr (73 + 15 * j + 14) (by omega), fr (73 + 15 * j + 0) (by omega), fr (73 + 15 * j + 1) (by omega), fr (73 + 15 * j + 2) (by omega), fr (73 + 15 * j + 3) (by omega), fr (73 + 15 * j + 4) (by omega)]
    exact f7 j hj
  · rw [pk_un (by omega)]; exact f8 j a h1 h2 h3
/-- a number of a flow that no sum counts -/
theorem Sim.fld {cs : Nat → RS} {R : Nat → Int32} {S : Nat → Int64} {n f k : Nat} {x : Int32} {w : RS} (h : Sim cs R S) (h0 : (cs 2).1 0 0 = nI n) (hf : f < n) (hn24 : n ≤ 24) (hk : k = 5 ∨ k = 9 ∨ k = 10 ∨ k = 11 ∨ k = 13) (hn : k = 5 → ∃ y, y ≤ 1000000000 ∧ x = nI y) (hr : k = 11 → x = -1 ∨ ∃ q, q < 4 ∧ x = nI q) (w0 : w.1 0 = (cs 2).1 0) (w1 : w.1 1 = upd ((cs 2).1 1) (zrow k * 24 + f) x) : Sim (va_up cs 2 w) (upd R (73 + 15 * f + k) x) S := by
  obtain ⟨n', nr, m, h0', hK, hF, hR, hT, hQ, hW, hG, hN, hO, hA⟩ := h
  have en : n' = n := (nI_eq (by have := hF.2.1; omega) (by omega)).mp (h0'.symm.trans h0)
  subst en
  have fr : ∀ i, i ≠ 73 + 15 * f + k → upd R (73 + 15 * f + k) x i = R i := fun i hi => pk_un hi
  have zk : zrow k = 9 ∨ zrow k = 15 ∨ zrow k = 16 ∨ zrow k = 17 ∨ zrow k = 19 := by
    rcases hk with rfl | rfl | rfl | rfl | rfl
    · exact Or.inl rfl
    · exact Or.inr (Or.inl rfl)
    · exact Or.inr (Or.inr (Or.inl rfl))
    · exact Or.inr (Or.inr (Or.inr (Or.inl rfl)))
    · exact Or.inr (Or.inr (Or.inr (Or.inr rfl)))
  have k14 : k < 14 := by clear hn hr; omega
  have k5 : 5 ≤ k := by clear hn hr; omega
  have hp := hF.put hf k14 k5 hn hr
  clear hn hr
  have cc : ∀ a g, a < 20 → g < n' → a ≠ zrow k → w.1 1 (a * 24 + g) = (cs 2).1 1 (a * 24 + g) := by
    intro a g ha hg hne
    rw [w1, pk_un (by omega)]
  refine ⟨n', nr, m, ?_, ?_, ?_, ?_, ?_, ?_, ?_, ?_, ?_, ?_, ?_⟩
  · rw [vu_s, w0]; exact h0'
  · rw [vu_n _ _ (by decide)]; exact hK.fr (fun i hi => fr i (by omega))
  · rw [vu_s, w1]; exact hp
  · rw [vu_s]; exact (hR.fr (fun i hi => fr i (by omega))).fc (fun g hg => cc 13 g (by omega) hg (by omega)) (fun g hg => cc 14 g (by omega) hg (by omega))
  · rw [vu_n _ _ (by decide)]; exact hT.fr (fun i hi => fr i (by omega))
  · intro p hp
    rw [vu_n _ _ (by omega)]; exact (hQ p hp).fr (fun i hi => fr i (by omega))
  · rw [vu_s]; exact (hW.fr (fun p hp => (hQ p hp).1) (fun i hi => fr i (by omega))).fc (fun g hg => cc 7 g (by omega) hg (by omega)) (fun g hg => cc 8 g (by omega) hg (by omega))
  · rw [vu_n _ _ (by decide)]; exact hG.fr (fun i hi => fr i (by omega))
  · rw [vu_n _ _ (by decide)]; exact hN
  · rw [vu_n _ _ (by decide)]; exact hO.fr (fun i hi => fr i (by omega))
  · rw [vu_s]; exact (hA.fr (fun i hi => fr i (by omega))).fc (fun a g ha hg => cc a g (by omega) hg (by omega))
theorem q8_inm1 {x : Int32} {Q : Int32 → Prop} (h1 : (x = -1 ∨ ∃ q, q ≤ 3 ∧ x = nI q) → Q 1) (h2 : ¬ (x = -1 ∨ ∃ q, q ≤ 3 ∧ x = nI q) → Q 0) : wp_X8_in x.toInt64 (-1) 3 Q := by
  have wm : (-1 : Int64).toInt = -1 := by decide
  have w3 : (3 : Int64).toInt = 3 := by decide
  have m1 : (-1 : Int32).toInt = -1 := by decide
  refine q8_in (fun a b => h1 ?_) (fun a => h2 (fun z => a ?_))
  · rw [i64_toInt, wm] at a
    rw [i64_toInt, w3] at b
    by_cases e : x.toInt = -1
    · exact Or.inl (Int32.toInt_inj.mp (e.trans m1.symm))
    · obtain ⟨k, hk, ek⟩ := i32_of (x := x) (n := 3) (by omega) b (by decide)
      exact Or.inr ⟨k, hk, ek⟩
  · rw [i64_toInt, wm, w3]
    rcases z with z | ⟨q, hq, z⟩
    · rw [z, m1]; omega
    · rw [z, nI_toInt (by omega)]; omega
theorem p_reads {B : Nat} : pX_reads (Rel B) (Rel (B + 30000)) := by
  intro u r x1 x2 h
  replace h := h.up 30000
  have h0 : Rel0 (B + 30000) u (rN r 0 0) := h.2
  have hs : Sim u.2.2.1 (r.1 3) (r.2 4) := h.2.2.1.1
  have hs2 := hs
  obtain ⟨n, nr, m, hn, hK, hF, -⟩ := hs2
  have h24 : n ≤ 24 := hF.2.1
  have h4 : (rN r 0 0).1 3 4 = nI n := hF.1
  have go : (x2 = -1 ∨ ∃ q, q ≤ 3 ∧ x2 = nI q) → wp_X7_reads_18 (fun x u1 => wp_X8_reads r x1 x2 (fun y r1 => x = y ∧ Rel (B + 30000) u1 r1)) u x1 x2 := by
    intro hx
    unfold wp_X7_reads_18
    refine q7_isFlow n hn h24 (fun f hf e => ⟨fun _ => ?_, fun z => absurd z (by decide)⟩) (fun ho => ⟨fun z => absurd rfl z, fun _ => ?_⟩)
    · refine q7_begin h0 (fun u1 l1 n1 o1 hrem => ?_)
      rw [n1]
      refine q0_get 17 f rfl e (by omega) (by omega) (fun u2 e2 => ?_)
      have e2 : u2 = u1 := by rw [e2, ← n1, tN_id]
      subst e2
      rw [n1]
      refine q0_put 17 f rfl e (by omega) (by omega) (fun w w0 w1 u3 e3 => ?_)
      unfold wp_X8_reads wp_X8_reads_56
      intro r1 f1
      subst f1
      refine q8_inm1 (fun _ => ⟨fun _ => q8_isFlow n h4 h24 (fun _ _ _ => ⟨fun z => absurd z (by decide), fun _ => q8_flowAt f e ?_⟩) (fun ho => absurd e (ho f hf)), fun z => absurd z (by decide)⟩) (fun hno => absurd hx hno)
      refine q8_becomes h0 (73 + 15 * f + 11) (by rw [nI_addl]) (by omega) (fun m v r2 m1 m2 hz hr => ⟨hF.2.2.1 f 11 hf (by omega), ?_⟩)
      refine k_put (hrem m v m1 m2 hz) l1 e3 hz hr ⟨hs.fld hn hf h24 (by omega) (fun z => absurd z (by decide)) (fun _ => ?_) w0 w1, h.2.2.1.2.fr (fun i hi => pk_un (by omega)) (fun _ _ => rfl)⟩
      rcases hx with hx | ⟨q, q1, q2⟩
      · exact Or.inl hx
      · exact Or.inr ⟨q, by omega, q2⟩
    · refine k_refuse 2 (-2) (by decide) (by decide) h0 (fun u1 hu => ?_)
      unfold wp_X8_reads wp_X8_reads_56
      intro r1 f1
      subst f1
      refine q8_inm1 (fun _ => ⟨fun _ => q8_isFlow n h4 h24 (fun f hf e => absurd e (ho f hf)) (fun _ => ⟨fun _ => hu _ (fun r2 hr => ⟨rfl, hr⟩), fun z => absurd rfl z⟩), fun z => absurd z (by decide)⟩) (fun hno => absurd hx hno)
  unfold wp_X7_reads
  refine ⟨fun e => go (Or.inl e), fun e => q7_isQueue (fun q hq eq => ⟨fun _ => go (Or.inr ⟨q, hq, eq⟩), fun z => absurd z (by decide)⟩) (fun ho => ⟨fun z => absurd rfl z, fun _ => ?_⟩)⟩
  refine k_refuse 1 (-1) (by decide) (by decide) h0 (fun u1 hu => ?_)
  unfold wp_X8_reads
  intro r1 f1
  subst f1
  refine q8_inm1 (fun hx => ?_) (fun _ => ⟨fun z => absurd rfl z, fun _ => hu _ (fun r2 hr => ⟨rfl, hr⟩)⟩)
  rcases hx with hx | ⟨q, q1, q2⟩
  · exact absurd hx e
  · exact absurd q2 (ho q q1)
theorem q8_hasNext {u : RS} {x1 x2 : Int32} {Q : Int32 → RS → Prop} (f : Nat) (e : x1 = nI f) (hf : f < 24) (h1 : u.1 3 (73 + 15 * f + 5) + x2 ≤ 1000000000 → Q 1 u) (h2 : ¬ u.1 3 (73 + 15 * f + 5) + x2 ≤ 1000000000 → Q 0 u) : wp_X8_hasNext u x1 x2 Q := by
  unfold wp_X8_hasNext wp_X8_hasNext_23
  refine q8_flowAt f e ?_
  rw [nI_addl, zn_nI (by omega)]
  exact ⟨in_nI (by omega) (by decide), fun c => ⟨Or.inl rfl, h2 (Int32.not_le.mpr c)⟩, fun c => ⟨Or.inr rfl, h1 (Int32.not_lt.mp c)⟩⟩
theorem next_le {a b : Nat} (ha : a ≤ 1000000000) (hb : b ≤ 100000) (h : nI a + nI b ≤ 1000000000) : a + b ≤ 1000000000 := by
  rw [nI_add] at h
  exact (nI_leI (by omega) (by decide)).mp (show nI (a + b) ≤ nI 1000000000 from h)
theorem p_gap {B : Nat} : pX_gap (Rel B) (Rel (B + 30000)) := by
  intro u r x1 x2 h
  replace h := h.up 30000
  have h0 : Rel0 (B + 30000) u (rN r 0 0) := h.2
  have hs : Sim u.2.2.1 (r.1 3) (r.2 4) := h.2.2.1.1
  have hs2 := hs
  obtain ⟨n, nr, m, hn, hK, hF, -⟩ := hs2
  have h24 : n ≤ 24 := hF.2.1
  have h4 : (rN r 0 0).1 3 4 = nI n := hF.1
  have bad : (∀ k, 1 ≤ k → k ≤ 9999 → ¬ x2 = nI k) → wp_X7_gap_12 (fun x u1 => wp_X8_gap r x1 x2 (fun y r1 => x = y ∧ Rel (B + 30000) u1 r1)) u := by
    intro ho
    unfold wp_X7_gap_12
    refine k_refuse 1 (-1) (by decide) (by decide) h0 (fun u1 hu => ?_)
    unfold wp_X8_gap
    intro r1 f1
    subst f1
    exact q8_inr 1 9999 (by decide) (by decide) (by decide) (fun k k1 k2 e => absurd e (ho k k1 k2)) (fun _ => ⟨fun z => absurd rfl z, fun _ => hu _ (fun r2 hr => ⟨rfl, hr⟩)⟩)
  unfold wp_X7_gap
  refine ⟨fun c => bad (fun k k1 k2 e => ?_), fun c => ⟨fun d => ?_, fun d => bad (fun k k1 k2 e => ?_)⟩⟩
  · rw [e] at c; exact absurd (show nI k < nI 1 from c) (nI_nlt k1 (by omega))
  · obtain ⟨k, k1, k2, rfl⟩ : ∃ k, 1 ≤ k ∧ k ≤ 9999 ∧ x2 = nI k := by
      rw [Int32.lt_iff_toInt_lt] at c
      rw [Int32.le_iff_toInt_le] at d
      have z1 : (1 : Int32).toInt = 1 := by decide
      have z9 : (9999 : Int32).toInt = 9999 := by decide
      rw [z1] at c
      rw [z9] at d
      obtain ⟨k, hk, ek⟩ := i32_of (x := x2) (n := 9999) (by omega) (by omega) (by decide)
      rw [ek, nI_toInt (by omega)] at c
      exact ⟨k, by omega, hk, ek⟩
    refine q7_isFlow n hn h24 (fun f hf e => ⟨fun _ => ?_, fun z => absurd z (by decide)⟩) (fun ho => ⟨fun z => absurd rfl z, fun _ => ?_⟩)
    · obtain ⟨y, y1, y2⟩ := hF.2.2.2.2.1 f hf
      have cy : (u.2.2.1 2).1 1 (9 * 24 + f) = nI y := (hF.2.2.1 f 5 hf (by omega)).trans y2
      refine q0_get 9 f rfl e (by omega) (by omega) (fun u0 e0 => ?_)
      rw [tN_id] at e0
      subst e0
      have nx : (rN r 0 0).1 3 (73 + 15 * f + 5) = nI y := y2
      rw [cy]
      refine ⟨fun c => ?_, fun c => ?_⟩
      · have hle := next_le y1 (by omega) c
        refine q7_begin h0 (fun u1 l1 n1 o1 hrem => ?_)
        rw [n1]
        refine q0_add 9 f rfl e (by omega) (by omega) (fun w w0 w1 u2 e2 => ?_)
        have s2 : u2.2.2.1 = va_up u0.2.2.1 2 w := by rw [e2]; rfl
        rw [s2, vu_s]
        refine q0_get 9 f rfl e (by omega) (by omega) (fun u3 e3 => ?_)
        have e3 : u3 = u2 := by
          rw [e3]
          have : va_up (va_up u0.2.2.1 2 w) 2 w = u2.2.2.1 := by rw [s2, va_up_up]
          rw [this]; rfl
        subst e3
        rw [w1, pk_us, cy, nI_add]
        unfold wp_X8_gap
        intro r1 f1
        subst f1
        refine q8_inr 1 9999 (by decide) (by decide) (by decide) (fun _ _ _ _ => ⟨fun _ => q8_isFlow n h4 h24 (fun _ _ _ => ⟨fun _ => q8_hasNext f e (by omega) (fun _ => ⟨fun _ => ?_, fun z => absurd z (by decide)⟩) (fun hno => ?_), fun z => absurd z (by decide)⟩) (fun ho => absurd e (ho f hf)), fun z => absurd z (by decide)⟩) (fun ho => absurd rfl (ho k k1 k2))
        · refine q8_rem h0 (fun mm v m1 m2 hz => q8_flowAt f e ?_)
          have v3 : v.1 3 = r.1 3 := hz.row.1
          rw [nI_addl, zn_nI (by omega), v3]
          refine ⟨in_nI (by omega) (by decide), in_nI (by omega) (by decide), fun r2 d2 => q8_flowAt f e ?_⟩
          rw [nI_addl, zn_nI (by omega)]
          refine ⟨in_nI (by omega) (by decide), ?_⟩
          unfold wp_X8_tell
          intro r3 d3
          have y2' : r.1 3 (73 + 15 * f + 5) = nI y := y2
          rw [y2', nI_add] at d2
          have r23 : r2.1 3 = upd (r.1 3) (73 + 15 * f + 5) (nI (y + k)) := by rw [d2, rI_s]
          refine ⟨by rw [r23, pk_us], ?_⟩
          refine k_end (hrem mm v m1 m2 hz) l1 e2 (by rw [d3, rN_s]) (fun j hj => by rw [d3, rN_n _ _ (by omega), d2, rI_n _ _ (by omega)]) (fun j hj => by rw [d3, rN_2, d2, rI_2]) ?_
          rw [d3, rN_n _ _ (by decide), rN_2, r23, d2, rI_2, hz.row.2]
          refine ⟨hs.fld (k := 5) hn hf h24 (by omega) (fun _ => ⟨y + k, hle, rfl⟩) (fun z => absurd z (by decide)) w0 (by rw [w1, cy, nI_add]; rfl), h.2.2.1.2.fr (fun i hi => pk_un (by omega)) (fun _ _ => rfl)⟩
        · rw [nx] at hno; exact absurd c hno
      · refine k_refuse 4 (-4) (by decide) (by decide) h0 (fun u1 hu => ?_)
        unfold wp_X8_gap
        intro r1 f1
        subst f1
        refine q8_inr 1 9999 (by decide) (by decide) (by decide) (fun _ _ _ _ => ⟨fun _ => q8_isFlow n h4 h24 (fun _ _ _ => ⟨fun _ => q8_hasNext f e (by omega) (fun hyes => ?_) (fun _ => ⟨fun z => absurd rfl z, fun _ => hu _ (fun r2 hr => ⟨rfl, hr⟩)⟩), fun z => absurd z (by decide)⟩) (fun ho => absurd e (ho f hf)), fun z => absurd z (by decide)⟩) (fun ho => absurd rfl (ho k k1 k2))
        rw [nx] at hyes; exact absurd hyes c
    · refine k_refuse 2 (-2) (by decide) (by decide) h0 (fun u1 hu => ?_)
      unfold wp_X8_gap
      intro r1 f1
      subst f1
      exact q8_inr 1 9999 (by decide) (by decide) (by decide) (fun _ _ _ _ => ⟨fun _ => q8_isFlow n h4 h24 (fun f hf e => absurd e (ho f hf)) (fun _ => ⟨fun z => absurd rfl z, fun _ => hu _ (fun r2 hr => ⟨rfl, hr⟩)⟩), fun z => absurd z (by decide)⟩) (fun ho => absurd rfl (ho k k1 k2))
  · rw [e] at d; exact d (show nI k ≤ nI 9999 from nI_le k2 (by decide))
