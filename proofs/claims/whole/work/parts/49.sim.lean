-- the pure side: a State of the class and a row of the reference are alike
def sK (k : RS) (R : Nat → Int32) : Prop := (∀ i, i < 41 → k.1 1 i = zwin (R 0) (R 1) (R 2) i) ∧ zbyte (R 2) ∧ k.1 0 0 = R 3 ∧ ∃ m, m < 32 ∧ R 3 = nI m
/-- the row of the class for each of a flow's first 14 places in the reference -/
def zrow (k : Nat) : Nat := [0, 1, 2, 3, 4, 9, 10, 11, 12, 15, 16, 17, 18, 19].getD k 0
def sF (n : Nat) (c R : Nat → Int32) : Prop := R 4 = nI n ∧ n ≤ 24 ∧
  (∀ j k, j < n → k < 14 → c (zrow k * 24 + j) = R (73 + 15 * j + k)) ∧ (∀ j k, j < n → k < 5 → zbyte (R (73 + 15 * j + k)) ∧ (k = 4 → R (73 + 15 * j + k) = 0 ∨ R (73 + 15 * j + k) = 1)) ∧
  (∀ j, j < n → ∃ x, x ≤ 1000000000 ∧ R (73 + 15 * j + 5) = nI x) ∧ (∀ j, j < n → R (73 + 15 * j + 11) = -1 ∨ ∃ q, q < 4 ∧ R (73 + 15 * j + 11) = nI q) ∧
  (∀ j, j < n → R (73 + 15 * j + 14) = zhf (zwin (R 0) (R 1) (R 2)) (R 3) (R (73 + 15 * j + 0)) (R (73 + 15 * j + 1)) (R (73 + 15 * j + 2)) (R (73 + 15 * j + 3)) (R (73 + 15 * j + 4))) ∧
  (∀ j k, n ≤ j → j < 24 → k < 20 → c (k * 24 + j) = 0)
def sR (n nr : Nat) (c R : Nat → Int32) : Prop := rRel n c R nr ∧ (∀ r, r < nr → ∃ q, q < 4 ∧ R (55 + 3 * r + 1) = nI q) ∧ ∀ f, f < n → zhasR c f = false → c (14 * 24 + f) = -1
def sT (t : RS) (R : Nat → Int32) : Prop := ∀ e, e < 16 → t.1 0 e = R (23 + e) ∧ t.1 1 e = R (39 + e) ∧ ∃ q, q < 4 ∧ R (23 + e) = nI q
/-- the queue's fields of the class in the order of the reference -/
def zqf (k : Nat) : Nat := [0, 3, 4, 1, 5, 2, 6, 7].getD k 0
def sQ (n q m : Nat) (o : RS) (R : Nat → Int32) : Prop := m ≤ 32 ∧ R (433 + 140 * q + 0) = nI m ∧ (∀ k, k < 8 → o.1 (zqf k) 0 = R (433 + 140 * q + k)) ∧
  (∀ i w, i < m → w < 4 → o.1 8 (4 * i + w) = R (441 + 140 * q + 4 * i + w)) ∧ (∀ i, i < m → ∃ f, f < n ∧ R (441 + 140 * q + 4 * i + 0) = nI f) ∧ ∀ i, i < m → R (441 + 140 * q + 4 * i + 3) = 0 ∨ R (441 + 140 * q + 4 * i + 3) = 1
/-- how many packets of a flow wait in a queue -/
def zcq (R : Nat → Int32) (m q f : Nat) : Nat := zct (fun i => R (441 + 140 * q + 4 * i + 0) == nI f) m
def sW (n : Nat) (m : Nat → Nat) (c R : Nat → Int32) : Prop := ∀ f, f < n → c (8 * 24 + f) = nI (zcq R (m 0) 0 f + zcq R (m 1) 1 f + zcq R (m 2) 2 f + zcq R (m 3) 3 f) ∧
  ((c (7 * 24 + f) = -1 ∧ ∀ q, q < 4 → zcq R (m q) q f = 0) ∨ ∃ q, q < 4 ∧ c (7 * 24 + f) = nI q ∧ 0 < zcq R (m q) q f ∧ ∀ p, p < 4 → p ≠ q → zcq R (m p) p f = 0)
def sG (s : RS) (R : Nat → Int32) (S : Nat → Int64) : Prop := ∃ k t, k ≤ 12 ∧ t < 12 ∧ s.1 0 0 = nI k ∧ R 13 = nI k ∧ s.1 2 0 = nI t ∧
  (∀ a w, a < k → w < 6 → s.1 3 (6 * ((t + 12 - a) % 12) + w) = R (993 + 6 * (k - 1 - a) + w)) ∧ ∀ i, i < 7 → s.2 1 i = S i
def zlo (i : Nat) : Nat := [1, 1, 1, 1, 0, 64, 0, 0, 1].getD i 0
def zhi (i : Nat) : Nat := [32, 32, 999, 9999, 64, 4096, 1, 256, 32].getD i 0
def sO (o : RS) (R : Nat → Int32) : Prop := (∀ i, i < 9 → o.1 5 i = R (14 + i)) ∧ o.1 6 0 = R 6 ∧ o.1 7 0 = R 11 ∧ (∃ x, x ≤ 99999 ∧ R 6 = nI x) ∧ ∀ i, i < 9 → ∃ x, zlo i ≤ x ∧ x ≤ zhi i ∧ R (14 + i) = nI x
def sA (n : Nat) (c R : Nat → Int32) : Prop := R 7 = zsum (fun f => c (10 * 24 + f)) n ∧ R 8 = zsum (fun f => c (11 * 24 + f)) n ∧ R 9 = zsum (fun f => c (12 * 24 + f)) n ∧ R 12 = zsum (fun f => c (18 * 24 + f)) n ∧ R 10 = zsum (fun q => R (433 + 140 * q + 3)) 4
/-- no segment is open -/
def sN (s : RS) : Prop := ∀ f, f < 24 → s.1 6 f = 0
def Sim (cs : Nat → RS) (R : Nat → Int32) (S : Nat → Int64) : Prop := ∃ (n nr : Nat) (m : Nat → Nat), (cs 2).1 0 0 = nI n ∧ sK (cs 1) R ∧ sF n ((cs 2).1 1) R ∧ sR n nr ((cs 2).1 1) R ∧ sT (cs 3) R ∧ (∀ q, q < 4 → sQ n q (m q) (cs (5 + q)) R) ∧ sW n m ((cs 2).1 1) R ∧ sG (cs 4) R S ∧ sN (cs 4) ∧ sO (cs 0) R ∧ sA n ((cs 2).1 1) R
theorem zhasR_eq {n : Nat} {c d : Nat → Int32} (h : ∀ i, i < 480 → d i = c i) (hn : n ≤ 24) : ∀ f, f < n → zhasR d f = zhasR c f := by
  intro f hf
  unfold zhasR
  rw [h _ (by omega)]
theorem rRel_cells {n nr : Nat} {c d R : Nat → Int32} (h : ∀ i, i < 480 → d i = c i) (hn : n ≤ 24) (hr : rRel n c R nr) : rRel n d R nr := by
  obtain ⟨h1, h2, h3, h4, h5, h6⟩ := hr
  have hz := zhasR_eq h hn
  refine ⟨h1, h2, by rw [zct_eq hz]; exact h3, fun r hr => ?_, fun f hf hb => h5 f hf (by rw [← hz f hf]; exact hb), h6⟩
  obtain ⟨f, f1, f2, f3, f4, f5⟩ := h4 r hr
  exact ⟨f, f1, f2, by rw [hz f f1]; exact f3, by rw [h _ (by omega)]; exact f4, by rw [h _ (by omega)]; exact f5⟩
theorem zrow_lt {k : Nat} (h : k < 14) : zrow k < 20 := by
  match k, h with
  | 0, _ => decide
  | 1, _ => decide
  | 2, _ => decide
  | 3, _ => decide
  | 4, _ => decide
  | 5, _ => decide
  | 6, _ => decide
  | 7, _ => decide
  | 8, _ => decide
  | 9, _ => decide
  | 10, _ => decide
  | 11, _ => decide
  | 12, _ => decide
  | 13, _ => decide
  | k + 14, h => omega
theorem zqf_lt {k : Nat} (h : k < 8) : zqf k < 8 := by
  match k, h with
  | 0, _ => decide
  | 1, _ => decide
  | 2, _ => decide
  | 3, _ => decide
  | 4, _ => decide
  | 5, _ => decide
  | 6, _ => decide
  | 7, _ => decide
  | k + 8, h => omega
theorem Sim.queues {cs : Nat → RS} {R : Nat → Int32} {S : Nat → Int64} (h : Sim cs R S) : ∀ q, q < 4 → ∃ m, m ≤ 32 ∧ (cs (5 + q)).1 0 0 = nI m := by
  obtain ⟨n, nr, m, -, -, -, -, -, hq, -⟩ := h
  intro q hlt
  obtain ⟨h1, h2, h3, -⟩ := hq q hlt
  exact ⟨m q, h1, (h3 0 (by omega)).trans h2⟩
/-- what a State became is alike to what the other was -/
theorem Sim.become {u v w : Nat → RS} {R : Nat → Int32} {S : Nat → Int64} (h : Sim v R S) (hn : sN (u 4)) (hb : zbec u v w) : Sim w R S := by
  obtain ⟨n, nr, m, h0, hK, hF, hR, hT, hQ, hW, hG, -, hO, hA⟩ := h
  obtain ⟨bk, bf, bt, bq, bs, bo⟩ := hb
  have h24 : n ≤ 24 := hF.2.1
  have hc : ∀ i, i < 480 → (w 2).1 1 i = (v 2).1 1 i := bf.2
  refine ⟨n, nr, m, by rw [bf.1]; exact h0, ?_, ?_, ?_, ?_, ?_, ?_, ?_, ?_, ?_, ?_⟩
  · obtain ⟨k1, k2, k3, k4⟩ := hK
    exact ⟨fun i hi => by rw [bk.2 i hi]; exact k1 i hi, k2, by rw [bk.1]; exact k3, k4⟩
  · obtain ⟨f1, f2, f3, f4, f5, f6, f7, f8⟩ := hF
    refine ⟨f1, f2, fun j k hj hk => ?_, f4, f5, f6, f7, fun j k h1 h2 h3 => ?_⟩
    · have := zrow_lt hk
      rw [hc _ (by omega)]; exact f3 j k hj hk
    · rw [hc _ (by omega)]; exact f8 j k h1 h2 h3
  · obtain ⟨r1, r2, r3⟩ := hR
    refine ⟨rRel_cells hc h24 r1, r2, fun f hf hz => ?_⟩
    rw [hc _ (by omega)]
    exact r3 f hf (by rw [← zhasR_eq hc h24 f hf]; exact hz)
  · intro e he
    obtain ⟨t1, t2, t3⟩ := hT e he
    exact ⟨by rw [(bt e he).1]; exact t1, by rw [(bt e he).2]; exact t2, t3⟩
  · intro q hq
    obtain ⟨q1, q2, q3, q4, q5, q6⟩ := hQ q hq
    obtain ⟨m', m1, m2, b1, b2⟩ := bq q hq
    have em : m' = m q := by
      have e := (q3 0 (by omega)).trans q2
      exact (nI_eq (by omega) (by omega)).mp (m2.symm.trans e)
    subst em
    refine ⟨q1, q2, fun k hk => ?_, fun i w hi hw => ?_, q5, q6⟩
    · rw [b1 _ (zqf_lt hk)]; exact q3 k hk
    · rw [b2 _ (by omega)]; exact q4 i w hi hw
  · intro f hf
    obtain ⟨w1, w2⟩ := hW f hf
    rw [hc _ (by omega), hc _ (by omega)]
    exact ⟨w1, w2⟩
  · obtain ⟨k, t, g1, g2, g3, g4, g5, g6, g7⟩ := hG
    obtain ⟨s1, s2, s3, s4, -⟩ := bs
    refine ⟨k, t, g1, g2, by rw [s1]; exact g3, g4, by rw [s2]; exact g5, fun a w ha hw => ?_, fun i hi => by rw [s3 i hi]; exact g7 i hi⟩
    rw [s4 _ (by omega)]; exact g6 a w ha hw
  · intro f hf
    rw [bs.2.2.2.2]; exact hn f hf
  · obtain ⟨o1, o2, o3, o4, o5⟩ := hO
    exact ⟨fun i hi => by rw [bo.1 i hi]; exact o1 i hi, by rw [bo.2.1]; exact o2, by rw [bo.2.2]; exact o3, o4, o5⟩
  · obtain ⟨a1, a2, a3, a4, a5⟩ := hA
    refine ⟨?_, ?_, ?_, ?_, a5⟩
    · rw [a1]; exact zsum_eq (fun i hi => (hc _ (by omega)).symm)
    · rw [a2]; exact zsum_eq (fun i hi => (hc _ (by omega)).symm)
    · rw [a3]; exact zsum_eq (fun i hi => (hc _ (by omega)).symm)
    · rw [a4]; exact zsum_eq (fun i hi => (hc _ (by omega)).symm)
def nL (n : Nat) : Int64 := Int64.ofNat n
/-- numbers that stay small: hits, sums, sizes -/
def Bd (B : Nat) (R : Nat → Int32) (S : Nat → Int64) : Prop := (∀ e, e < 16 → ∃ x, x ≤ B ∧ R (39 + e) = nI x) ∧
  (∃ G P Y : Nat, S 0 = nL G ∧ S 1 = nL P ∧ S 2 = nL Y ∧ G ≤ B ∧ G ≤ P ∧ P ≤ 100000 * G ∧ Y ≤ 100000 * G) ∧
  ∀ q i, q < 4 → i < 32 → ∃ x, x ≤ 1500 ∧ R (441 + 140 * q + 4 * i + 2) = nI x
theorem Bd.up {B : Nat} {R : Nat → Int32} {S : Nat → Int64} (h : Bd B R S) (c : Nat) : Bd (B + c) R S := by
  obtain ⟨h1, ⟨G, P, Y, g1, g2, g3, g4, g5, g6, g7⟩, h3⟩ := h
  refine ⟨fun e he => ?_, ⟨G, P, Y, g1, g2, g3, by omega, g5, g6, g7⟩, h3⟩
  obtain ⟨x, x1, x2⟩ := h1 e he
  exact ⟨x, by omega, x2⟩
theorem Bd.fr {B : Nat} {R R1 : Nat → Int32} {S S1 : Nat → Int64} (h : Bd B R S) (e : ∀ i, (39 ≤ i ∧ i < 55) ∨ (441 ≤ i ∧ i < 993) → R1 i = R i) (f : ∀ i, i < 3 → S1 i = S i) : Bd B R1 S1 := by
  obtain ⟨h1, ⟨G, P, Y, g1, g2, g3, g4⟩, h3⟩ := h
  refine ⟨fun k hk => by rw [e _ (by omega)]; exact h1 k hk, ⟨G, P, Y, by rw [f _ (by omega)]; exact g1, by rw [f _ (by omega)]; exact g2, by rw [f _ (by omega)]; exact g3, g4⟩, fun q i hq hi => by rw [e _ (by omega)]; exact h3 q i hq hi⟩
def SimB (B : Nat) (cs : Nat → RS) (R : Nat → Int32) (S : Nat → Int64) : Prop := Sim cs R S ∧ Bd B R S
theorem SimB.up {B : Nat} {cs : Nat → RS} {R : Nat → Int32} {S : Nat → Int64} (h : SimB B cs R S) (c : Nat) : SimB (B + c) cs R S := ⟨h.1, h.2.up c⟩
theorem SimB.queues {B : Nat} {cs : Nat → RS} {R : Nat → Int32} {S : Nat → Int64} (h : SimB B cs R S) : ∀ q, q < 4 → ∃ m, m ≤ 32 ∧ (cs (5 + q)).1 0 0 = nI m := h.1.queues
theorem SimB.become {B : Nat} {u v w : Nat → RS} {R : Nat → Int32} {S : Nat → Int64} (h : SimB B v R S) (hn : sN (u 4)) (hb : zbec u v w) : SimB B w R S := ⟨h.1.become hn hb, h.2⟩
