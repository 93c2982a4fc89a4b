-- the pure side: Sim looks at the row's 1065 numbers and the 7 sums alone
theorem rRel_row {n nr : Nat} {c R R1 : Nat → Int32} (h : ∀ i, i < 1065 → R1 i = R i) (hr : rRel n c R nr) : rRel n c R1 nr := by
  obtain ⟨h1, h2, h3, h4, h5, h6⟩ := hr
  refine ⟨h1, by rw [h _ (by omega)]; exact h2, h3, fun r hr => ?_, fun f hf hb => ?_, fun r t hrt ht => ?_⟩
  · rw [h _ (by omega), h _ (by omega), h _ (by omega)]; exact h4 r hr
  · obtain ⟨r, r1, r2⟩ := h5 f hf hb
    exact ⟨r, r1, by rw [h _ (by omega)]; exact r2⟩
  · rw [h _ (by omega), h _ (by omega)]; exact h6 r t hrt ht
theorem zcq_row {R R1 : Nat → Int32} (h : ∀ i, i < 1065 → R1 i = R i) {m q f : Nat} (hq : q < 4) (hm : m ≤ 32) : zcq R1 m q f = zcq R m q f := by
  unfold zcq
  exact zct_eq (fun i hi => by rw [h _ (by omega)])
theorem Sim.row {cs : Nat → RS} {R R1 : Nat → Int32} {S S1 : Nat → Int64} (hs : Sim cs R S) (h : ∀ i, i < 1065 → R1 i = R i) (hS : ∀ i, i < 7 → S1 i = S i) : Sim cs R1 S1 := by
  obtain ⟨n, nr, m, h0, hK, hF, hR, hT, hQ, hW, hG, hN, hO, hA⟩ := hs
  have h24 : n ≤ 24 := hF.2.1
  refine ⟨n, nr, m, h0, ?_, ?_, ?_, ?_, ?_, ?_, ?_, hN, ?_, ?_⟩
  · unfold sK
    rw [h 0 (by omega), h 1 (by omega), h 2 (by omega), h 3 (by omega)]
    exact hK
  · obtain ⟨f1, f2, f3, f4, f5, f6, f7, f8⟩ := hF
    refine ⟨by rw [h _ (by omega)]; exact f1, f2, fun j k hj hk => by rw [h _ (by omega)]; exact f3 j k hj hk, fun j k hj hk => by rw [h _ (by omega)]; exact f4 j k hj hk, fun j hj => by rw [h _ (by omega)]; exact f5 j hj, fun j hj => by rw [h _ (by omega)]; exact f6 j hj, fun j hj => ?_, f8⟩
    rw [h 0 (by omega), h 1 (by omega), h 2 (by omega), h 3 (by omega), h (73 + 15 * j + 14) (by omega), h (73 + 15 * j + 0) (by omega), h (73 + 15 * j + 1) (by omega), h (73 + 15 * j + 2) (by omega), h (73 + 15 * j + 3) (by omega), h (73 + 15 * j + 4) (by omega)]
    exact f7 j hj
  · obtain ⟨r1, r2, r3⟩ := hR
    have h6 : nr ≤ 6 := r1.1
    exact ⟨rRel_row h r1, fun r hr => by rw [h _ (by omega)]; exact r2 r hr, r3⟩
  · intro e he
    rw [h _ (by omega), h _ (by omega)]; exact hT e he
  · intro q hq
    obtain ⟨q1, q2, q3, q4, q5, q6⟩ := hQ q hq
    exact ⟨q1, by rw [h _ (by omega)]; exact q2, fun k hk => by rw [h _ (by omega)]; exact q3 k hk, fun i w hi hw => by rw [h _ (by omega)]; exact q4 i w hi hw, fun i hi => by rw [h _ (by omega)]; exact q5 i hi, fun i hi => by rw [h _ (by omega)]; exact q6 i hi⟩
  · have e : ∀ q, q < 4 → ∀ f, zcq R1 (m q) q f = zcq R (m q) q f := fun q hq f => zcq_row h hq (hQ q hq).1
    intro f hf
    obtain ⟨w1, w2⟩ := hW f hf
    rw [e 0 (by omega), e 1 (by omega), e 2 (by omega), e 3 (by omega)]
    refine ⟨w1, ?_⟩
    rcases w2 with ⟨a, b⟩ | ⟨q, a, b, c, d⟩
    · exact Or.inl ⟨a, fun q hq => by rw [e q hq]; exact b q hq⟩
    · exact Or.inr ⟨q, a, b, by rw [e q a]; exact c, fun p hp hne => by rw [e p hp]; exact d p hp hne⟩
  · obtain ⟨k, t, g1, g2, g3, g4, g5, g6, g7⟩ := hG
    exact ⟨k, t, g1, g2, g3, by rw [h _ (by omega)]; exact g4, g5, fun a w ha hw => by rw [h _ (by omega)]; exact g6 a w ha hw, fun i hi => by rw [hS i hi]; exact g7 i hi⟩
  · obtain ⟨o1, o2, o3, o4, o5⟩ := hO
    refine ⟨fun i hi => by rw [h _ (by omega)]; exact o1 i hi, by rw [h _ (by omega)]; exact o2, by rw [h _ (by omega)]; exact o3, by rw [h _ (by omega)]; exact o4, fun i hi => by rw [h _ (by omega)]; exact o5 i hi⟩
  · obtain ⟨a1, a2, a3, a4, a5⟩ := hA
    refine ⟨by rw [h _ (by omega)]; exact a1, by rw [h _ (by omega)]; exact a2, by rw [h _ (by omega)]; exact a3, by rw [h _ (by omega)]; exact a4, ?_⟩
    rw [h _ (by omega), a5]
    exact zsum_eq (fun i hi => (h _ (by omega)).symm)
theorem SimB.row {B : Nat} {cs : Nat → RS} {R R1 : Nat → Int32} {S S1 : Nat → Int64} (hs : SimB B cs R S) (h : ∀ i, i < 1065 → R1 i = R i) (hS : ∀ i, i < 7 → S1 i = S i) : SimB B cs R1 S1 := ⟨hs.1.row h hS, hs.2.fr (fun i hi => h i (by omega)) (fun i hi => hS i (by omega))⟩
/-- the whole of both: refusals, what stands, what can be taken back, images, paper -/
def Rel (B : Nat) (u : TS) (r : RS) : Prop := u.1.1 4 0 = r.1 1 0 ∧ (∀ k, k < 6 → u.1.1 3 k = r.1 2 k) ∧ SimB B u.2.2.1 (r.1 3) (r.2 4) ∧
  (∃ m t, m ≤ 8 ∧ t < 8 ∧ u.2.1.1 0 0 = nI m ∧ r.1 8 0 = nI m ∧ u.2.1.1 3 0 = nI t ∧ ∀ a, a < m → u.2.1.1 2 ((t + 8 - a) % 8) = r.1 7 (m - 1 - a) ∧ ∃ q : PS, u.2.2.2.1 ((t + 8 - a) % 8) = some q ∧ SimB B q.2 (fun i => r.1 5 (1065 * (m - 1 - a) + i)) (fun i => r.2 6 (7 * (m - 1 - a) + i))) ∧
  (∀ k q, k < 8 → u.2.2.2.1 k = some q → sN (q.2 4)) ∧
  (∀ k, k < 2 → (u.2.2.2.2 k = none ∧ r.1 11 k = 0) ∨ ∃ q : PS, u.2.2.2.2 k = some q ∧ r.1 11 k = 1 ∧ SimB B q.2 (fun i => r.1 9 (1065 * k + i)) (fun i => r.2 10 (7 * k + i))) ∧
  (∀ q : PS, u.2.2.2.2 2 = some q → sN (q.2 4))
theorem Sim.sN {cs : Nat → RS} {R : Nat → Int32} {S : Nat → Int64} (h : Sim cs R S) : sN (cs 4) := by
  obtain ⟨n, nr, m, -, -, -, -, -, -, -, -, hN, -⟩ := h
  exact hN
theorem SimB.sN {B : Nat} {cs : Nat → RS} {R : Nat → Int32} {S : Nat → Int64} (h : SimB B cs R S) : sN (cs 4) := h.1.sN
theorem Rel.up {B : Nat} {u : TS} {r : RS} (h : Rel B u r) (c : Nat) : Rel (B + c) u r := by
  obtain ⟨h1, h2, h3, ⟨m, t, m1, m2, m3, m4, m5, m6⟩, h5, h6, h7⟩ := h
  refine ⟨h1, h2, h3.up c, ⟨m, t, m1, m2, m3, m4, m5, fun a ha => ?_⟩, h5, fun k hk => ?_, h7⟩
  · obtain ⟨c1, q, c2, c3⟩ := m6 a ha
    exact ⟨c1, q, c2, c3.up c⟩
  · rcases h6 k hk with a | ⟨q, a, b, d⟩
    · exact Or.inl a
    · exact Or.inr ⟨q, a, b, d.up c⟩
theorem iS_sN : sN (iS 4) := by
  intro f _
  rfl
/-- copied: what stands is copied into the place -/
theorem q7_copied {B : Nat} {o : Option PS} {v : Nat → RS} {Q : PS → Prop} {R : Nat → Int32} {S : Nat → Int64} (hv : SimB B v R S) (ho : ∀ q : PS, o = some q → sN (q.2 4)) (h : ∀ q : PS, SimB B q.2 R S → Q q) : wp_X7_copied o v Q := by
  unfold wp_X7_copied
  intro q hq
  refine q5_become hv.queues (fun w hw => h (q.1, w) (hv.become ?_ hw))
  rcases hq with hq | ⟨-, hq⟩
  · exact ho q hq
  · rw [hq]; exact iS_sN
