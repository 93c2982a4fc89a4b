-- the pure side: which numbers of the row each part of Sim looks at
theorem sK.fr {k : RS} {R R1 : Nat → Int32} (h : sK k R) (e : ∀ i, i < 4 → R1 i = R i) : sK k R1 := by
  unfold sK
  rw [e 0 (by omega), e 1 (by omega), e 2 (by omega), e 3 (by omega)]
  exact h
theorem sF.fr {n : Nat} {c R R1 : Nat → Int32} (hF : sF n c R) (h : ∀ i, i < 5 ∨ (73 ≤ i ∧ i < 433) → R1 i = R i) : sF n c R1 := by
  obtain ⟨f1, f2, f3, f4, f5, f6, f7, f8⟩ := hF
  refine ⟨by rw [h _ (by omega)]; exact f1, f2, fun j k hj hk => by rw [h _ (by omega)]; exact f3 j k hj hk, fun j k hj hk => by rw [h _ (by omega)]; exact f4 j k hj hk, fun j hj => by rw [h _ (by omega)]; exact f5 j hj, fun j hj => by rw [h _ (by omega)]; exact f6 j hj, fun j hj => ?_, f8⟩
  rw [h 0 (by omega), h 1 (by omega), h 2 (by omega), h 3 (by omega), h (73 + 15 * j + 14) (by omega), h (73 + 15 * j + 0) (by omega), h (73 + 15 * j + 1) (by omega), h (73 + 15 * j + 2) (by omega), h (73 + 15 * j + 3) (by omega), h (73 + 15 * j + 4) (by omega)]
  exact f7 j hj
theorem sR.fr {n nr : Nat} {c R R1 : Nat → Int32} (hR : sR n nr c R) (h : ∀ i, i = 5 ∨ (55 ≤ i ∧ i < 73) → R1 i = R i) : sR n nr c R1 := by
  obtain ⟨⟨h1, h2, h3, h4, h5, h6⟩, r2, r3⟩ := hR
  refine ⟨⟨h1, by rw [h _ (by omega)]; exact h2, h3, fun r hr => ?_, fun f hf hb => ?_, fun r t hrt ht => ?_⟩, fun r hr => by rw [h _ (by omega)]; exact r2 r hr, r3⟩
  · rw [h _ (by omega), h _ (by omega), h _ (by omega)]; exact h4 r hr
  · obtain ⟨r, r1, r2⟩ := h5 f hf hb
    exact ⟨r, r1, by rw [h _ (by omega)]; exact r2⟩
  · rw [h _ (by omega), h _ (by omega)]; exact h6 r t hrt ht
theorem sT.fr {t : RS} {R R1 : Nat → Int32} (hT : sT t R) (h : ∀ i, 23 ≤ i ∧ i < 55 → R1 i = R i) : sT t R1 := by
  intro e he
  rw [h _ (by omega), h _ (by omega)]; exact hT e he
theorem sQ.fr {n q m : Nat} {o : RS} {R R1 : Nat → Int32} (hQ : sQ n q m o R) (h : ∀ i, 433 + 140 * q ≤ i ∧ i < 573 + 140 * q → R1 i = R i) : sQ n q m o R1 := by
  obtain ⟨q1, q2, q3, q4, q5, q6⟩ := hQ
  exact ⟨q1, by rw [h _ (by omega)]; exact q2, fun k hk => by rw [h _ (by omega)]; exact q3 k hk, fun i w hi hw => by rw [h _ (by omega)]; exact q4 i w hi hw, fun i hi => by rw [h _ (by omega)]; exact q5 i hi, fun i hi => by rw [h _ (by omega)]; exact q6 i hi⟩
theorem zcq_fr {R R1 : Nat → Int32} {m q f : Nat} (hm : m ≤ 32) (h : ∀ i, 433 + 140 * q ≤ i ∧ i < 573 + 140 * q → R1 i = R i) : zcq R1 m q f = zcq R m q f := by
  unfold zcq
  exact zct_eq (fun i hi => by rw [h _ (by omega)])
theorem sW.fr {n : Nat} {m : Nat → Nat} {c R R1 : Nat → Int32} (hW : sW n m c R) (hm : ∀ q, q < 4 → m q ≤ 32) (h : ∀ i, 433 ≤ i ∧ i < 993 → R1 i = R i) : sW n m c R1 := by
  have e : ∀ q, q < 4 → ∀ f, zcq R1 (m q) q f = zcq R (m q) q f := fun q hq f => zcq_fr (hm q hq) (fun i hi => h i (by omega))
  intro f hf
  obtain ⟨w1, w2⟩ := hW f hf
  rw [e 0 (by omega), e 1 (by omega), e 2 (by omega), e 3 (by omega)]
  refine ⟨w1, ?_⟩
  rcases w2 with ⟨a, b⟩ | ⟨q, a, b, c, d⟩
  · exact Or.inl ⟨a, fun q hq => by rw [e q hq]; exact b q hq⟩
  · exact Or.inr ⟨q, a, b, by rw [e q a]; exact c, fun p hp hne => by rw [e p hp]; exact d p hp hne⟩
theorem sG.fr {s : RS} {R R1 : Nat → Int32} {S : Nat → Int64} (hG : sG s R S) (h : ∀ i, i = 13 ∨ 993 ≤ i → R1 i = R i) : sG s R1 S := by
  obtain ⟨k, t, g1, g2, g3, g4, g5, g6, g7⟩ := hG
  exact ⟨k, t, g1, g2, g3, by rw [h _ (by omega)]; exact g4, g5, fun a w ha hw => by rw [h _ (by omega)]; exact g6 a w ha hw, g7⟩
theorem sO.fr {o : RS} {R R1 : Nat → Int32} (hO : sO o R) (h : ∀ i, i = 6 ∨ i = 11 ∨ (14 ≤ i ∧ i < 23) → R1 i = R i) : sO o R1 := by
  obtain ⟨o1, o2, o3, o4, o5⟩ := hO
  exact ⟨fun i hi => by rw [h _ (by omega)]; exact o1 i hi, by rw [h _ (by omega)]; exact o2, by rw [h _ (by omega)]; exact o3, by rw [h _ (by omega)]; exact o4, fun i hi => by rw [h _ (by omega)]; exact o5 i hi⟩
theorem sA.fr {n : Nat} {c R R1 : Nat → Int32} (hA : sA n c R) (h : ∀ i, (7 ≤ i ∧ i < 11) ∨ i = 12 ∨ (433 ≤ i ∧ i < 993) → R1 i = R i) : sA n c R1 := by
  obtain ⟨a1, a2, a3, a4, a5⟩ := hA
  refine ⟨by rw [h _ (by omega)]; exact a1, by rw [h _ (by omega)]; exact a2, by rw [h _ (by omega)]; exact a3, by rw [h _ (by omega)]; exact a4, ?_⟩
  rw [h _ (by omega), a5]
  exact zsum_eq (fun i hi => (h _ (by omega)).symm)
/-- an act ends: what stands is new on both sides -/
theorem k_end {B : Nat} {u1 u2 : TS} {v r2 : RS} {cs : Nat → RS} (hv : Rel0 B u1 v) (l1 : u1.1.1 4 0 = 0) (hu : u2 = tN u1 cs) (h1 : r2.1 1 0 = 0) (hr : ∀ k, k = 2 ∨ k = 5 ∨ k = 7 ∨ k = 8 ∨ k = 9 ∨ k = 11 → r2.1 k = v.1 k) (hl : ∀ k, k = 6 ∨ k = 10 → r2.2 k = v.2 k) (hs : SimB B cs (r2.1 3) (r2.2 4)) : Rel B u2 r2 := by
  subst hu
  refine ⟨?_, Rel0.now hv ⟨rfl, rfl, rfl, fun _ _ => rfl, hv.2.2.2.2.2⟩ (hr 2 (by omega)) (hr 5 (by omega)) (hr 7 (by omega)) (hr 8 (by omega)) (hr 9 (by omega)) (hr 11 (by omega)) (hl 6 (by omega)) (hl 10 (by omega)) hs⟩
  show u1.1.1 4 0 = r2.1 1 0
  rw [h1]; exact l1
/-- Sim with one number of the row and one part of the State changed -/
theorem Sim.table {cs : Nat → RS} {R : Nat → Int32} {S : Nat → Int64} (h : Sim cs R S) (e q : Nat) (he : e < 16) (hq : q < 4) : Sim (va_up cs 3 (rI (cs 3) 0 (upd ((cs 3).1 0) e (nI q)))) (upd R (23 + e) (nI q)) S := by
  obtain ⟨n, nr, m, h0, hK, hF, hR, hT, hQ, hW, hG, hN, hO, hA⟩ := h
  have fr : ∀ i, i ≠ 23 + e → upd R (23 + e) (nI q) i = R i := fun i hi => pk_un hi
  refine ⟨n, nr, m, ?_, ?_, ?_, ?_, ?_, ?_, ?_, ?_, ?_, ?_, ?_⟩
  · rw [vu_n _ _ (by decide)]; exact h0
  · rw [vu_n _ _ (by decide)]; exact hK.fr (fun i hi => fr i (by omega))
  · rw [vu_n _ _ (by decide)]; exact hF.fr (fun i hi => fr i (by omega))
  · rw [vu_n _ _ (by decide)]; exact hR.fr (fun i hi => fr i (by omega))
  · rw [vu_s]
    intro j hj
    obtain ⟨t1, t2, t3⟩ := hT j hj
    rw [rI_s, rI_n _ _ (by decide), fr (39 + j) (by omega)]
    by_cases z : j = e
    · subst z
      rw [pk_us, pk_us]
      exact ⟨rfl, t2, q, hq, rfl⟩
    · rw [pk_un z, fr (23 + j) (by omega)]
      exact ⟨t1, t2, t3⟩
  · intro p hp
    rw [vu_n _ _ (by omega)]; exact (hQ p hp).fr (fun i hi => fr i (by omega))
  · rw [vu_n _ _ (by decide)]; exact hW.fr (fun p hp => (hQ p hp).1) (fun i hi => fr i (by omega))
  · rw [vu_n _ _ (by decide)]; exact hG.fr (fun i hi => fr i (by omega))
  · rw [vu_n _ _ (by decide)]; exact hN
  · rw [vu_n _ _ (by decide)]; exact hO.fr (fun i hi => fr i (by omega))
  · rw [vu_n _ _ (by decide)]; exact hA.fr (fun i hi => fr i (by omega))
