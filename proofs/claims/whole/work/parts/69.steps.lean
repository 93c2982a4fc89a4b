-- the pure side: single steps that leave both alike
def SimX (n nr : Nat) (m : Nat → Nat) (cs : Nat → RS) (R : Nat → Int32) (S : Nat → Int64) : Prop := (cs 2).1 0 0 = nI n ∧ sK (cs 1) R ∧ sF n ((cs 2).1 1) R ∧ sR n nr ((cs 2).1 1) R ∧ sT (cs 3) R ∧ (∀ q, q < 4 → sQ n q (m q) (cs (5 + q)) R) ∧ sW n m ((cs 2).1 1) R ∧ sG (cs 4) R S ∧ sN (cs 4) ∧ sO (cs 0) R ∧ sA n ((cs 2).1 1) R
theorem SimX.sim {n nr : Nat} {m : Nat → Nat} {cs : Nat → RS} {R : Nat → Int32} {S : Nat → Int64} (h : SimX n nr m cs R S) : Sim cs R S := ⟨n, nr, m, h⟩
theorem Sim.x {cs : Nat → RS} {R : Nat → Int32} {S : Nat → Int64} (h : Sim cs R S) : ∃ n nr m, SimX n nr m cs R S := h
/-- the flows' part alone changes -/
theorem SimX.flows {n nr : Nat} {m : Nat → Nat} {cs : Nat → RS} {R R1 : Nat → Int32} {S : Nat → Int64} {w : RS} (h : SimX n nr m cs R S) (w0 : w.1 0 = (cs 2).1 0) (hF : sF n (w.1 1) R1) (hR : sR n nr (w.1 1) R1) (hW : sW n m (w.1 1) R1) (hA : sA n (w.1 1) R1) (fr : ∀ i, (i < 4 ∨ i = 6 ∨ i = 11 ∨ i = 13 ∨ (14 ≤ i ∧ i < 55) ∨ 433 ≤ i) → R1 i = R i) : SimX n nr m (va_up cs 2 w) R1 S := by
  obtain ⟨h0, hK, -, -, hT, hQ, -, hG, hN, hO, -⟩ := h
  refine ⟨?_, ?_, ?_, ?_, ?_, ?_, ?_, ?_, ?_, ?_, ?_⟩
  · rw [vu_s, w0]; exact h0
  · rw [vu_n _ _ (by decide)]; exact hK.fr (fun i hi => fr i (by omega))
  · rw [vu_s]; exact hF
  · rw [vu_s]; exact hR
  · rw [vu_n _ _ (by decide)]; exact hT.fr (fun i hi => fr i (by omega))
  · intro p hp
    rw [vu_n _ _ (by omega)]; exact (hQ p hp).fr (fun i hi => fr i (by omega))
  · rw [vu_s]; exact hW
  · rw [vu_n _ _ (by decide)]; exact hG.fr (fun i hi => fr i (by omega))
  · rw [vu_n _ _ (by decide)]; exact hN
  · rw [vu_n _ _ (by decide)]; exact hO.fr (fun i hi => fr i (by omega))
  · rw [vu_s]; exact hA
theorem SimX.fld {n nr : Nat} {m : Nat → Nat} {cs : Nat → RS} {R : Nat → Int32} {S : Nat → Int64} {f k : Nat} {x : Int32} {w : RS} (h : SimX n nr m cs R S) (hf : f < n) (hk : k = 5 ∨ k = 9 ∨ k = 10 ∨ k = 11 ∨ k = 13) (hn : k = 5 → ∃ y, y ≤ 1000000000 ∧ x = nI y) (hr : k = 11 → x = -1 ∨ ∃ q, q < 4 ∧ x = nI q) (w0 : w.1 0 = (cs 2).1 0) (w1 : w.1 1 = upd ((cs 2).1 1) (zrow k * 24 + f) x) : SimX n nr m (va_up cs 2 w) (upd R (73 + 15 * f + k) x) S := by
  have hh := h
  obtain ⟨h0, hK, hF, hR, hT, hQ, hW, hG, hN, hO, hA⟩ := hh
  have hn24 : n ≤ 24 := hF.2.1
  have k14 : k < 14 := by clear hn hr; omega
  have k5 : 5 ≤ k := by clear hn hr; omega
  have hp := hF.put hf k14 k5 hn hr
  clear hn hr
  have fr : ∀ i, i ≠ 73 + 15 * f + k → upd R (73 + 15 * f + k) x i = R i := fun i hi => pk_un hi
  have zk : zrow k = 9 ∨ zrow k = 15 ∨ zrow k = 16 ∨ zrow k = 17 ∨ zrow k = 19 := by
    rcases hk with rfl | rfl | rfl | rfl | rfl
    · exact Or.inl rfl
    · exact Or.inr (Or.inl rfl)
    · exact Or.inr (Or.inr (Or.inl rfl))
    · exact Or.inr (Or.inr (Or.inr (Or.inl rfl)))
    · exact Or.inr (Or.inr (Or.inr (Or.inr rfl)))
  have cc : ∀ a g, a < 20 → g < n → a ≠ zrow k → w.1 1 (a * 24 + g) = (cs 2).1 1 (a * 24 + g) := by
    intro a g ha hg hne
    rw [w1, pk_un (by omega)]
  refine h.flows w0 (by rw [w1]; exact hp) ?_ ?_ ?_ (fun i hi => fr i (by omega))
  · exact (hR.fr (fun i hi => fr i (by omega))).fc (fun g hg => cc 13 g (by omega) hg (by omega)) (fun g hg => cc 14 g (by omega) hg (by omega))
  · exact (hW.fr (fun p hp => (hQ p hp).1) (fun i hi => fr i (by omega))).fc (fun g hg => cc 7 g (by omega) hg (by omega)) (fun g hg => cc 8 g (by omega) hg (by omega))
  · exact (hA.fr (fun i hi => fr i (by omega))).fc (fun a g ha hg => cc a g (by omega) hg (by omega))
/-- a count of a flow, and of all -/
theorem SimX.cnt {n nr : Nat} {m : Nat → Nat} {cs : Nat → RS} {R : Nat → Int32} {S : Nat → Int64} {f k a : Nat} {w : RS} (h : SimX n nr m cs R S) (hf : f < n) (hk : (k = 6 ∧ a = 7) ∨ (k = 7 ∧ a = 8) ∨ (k = 8 ∧ a = 9) ∨ (k = 12 ∧ a = 12)) (w0 : w.1 0 = (cs 2).1 0) (w1 : w.1 1 = upd ((cs 2).1 1) (zrow k * 24 + f) ((cs 2).1 1 (zrow k * 24 + f) + 1)) : SimX n nr m (va_up cs 2 w) (upd (upd R (73 + 15 * f + k) (R (73 + 15 * f + k) + 1)) a (R a + 1)) S := by
  have hh := h
  obtain ⟨h0, hK, hF, hR, hT, hQ, hW, hG, hN, hO, hA⟩ := hh
  have hn24 : n ≤ 24 := hF.2.1
  have zk : zrow k = 10 ∨ zrow k = 11 ∨ zrow k = 12 ∨ zrow k = 18 := by
    rcases hk with ⟨rfl, -⟩ | ⟨rfl, -⟩ | ⟨rfl, -⟩ | ⟨rfl, -⟩
    · exact Or.inl rfl
    · exact Or.inr (Or.inl rfl)
    · exact Or.inr (Or.inr (Or.inl rfl))
    · exact Or.inr (Or.inr (Or.inr rfl))
  have ck : (cs 2).1 1 (zrow k * 24 + f) = R (73 + 15 * f + k) := hF.2.2.1 f k hf (by omega)
  have fr : ∀ i, i ≠ 73 + 15 * f + k → i ≠ a → upd (upd R (73 + 15 * f + k) (R (73 + 15 * f + k) + 1)) a (R a + 1) i = R i := fun i h1 h2 => by rw [pk_un h2, pk_un h1]
  have cc : ∀ b g, b < 20 → g < n → b ≠ zrow k → w.1 1 (b * 24 + g) = (cs 2).1 1 (b * 24 + g) := by
    intro b g hb hg hne
    rw [w1, pk_un (by omega)]
  refine h.flows w0 ?_ ?_ ?_ ?_ (fun i hi => fr i (by omega) (by omega))
  · have hp := hF.put (k := k) (x := R (73 + 15 * f + k) + 1) hf (by omega) (by omega) (fun z => absurd z (by omega)) (fun z => absurd z (by omega))
    rw [w1, ck]
    exact hp.fr (fun i hi => by rw [pk_un (show i ≠ a by omega)])
  · exact (hR.fr (fun i hi => fr i (by omega) (by omega))).fc (fun g hg => cc 13 g (by omega) hg (by omega)) (fun g hg => cc 14 g (by omega) hg (by omega))
  · exact (hW.fr (fun p hp => (hQ p hp).1) (fun i hi => fr i (by omega) (by omega))).fc (fun g hg => cc 7 g (by omega) hg (by omega)) (fun g hg => cc 8 g (by omega) hg (by omega))
  · obtain ⟨a1, a2, a3, a4, a5⟩ := hA
    have same : ∀ b, b < 20 → b ≠ zrow k → zsum (fun g => w.1 1 (b * 24 + g)) n = zsum (fun g => (cs 2).1 1 (b * 24 + g)) n := fun b hb hne => zsum_eq (fun g hg => cc b g hb hg hne)
    have more : zsum (fun g => w.1 1 (zrow k * 24 + g)) n = zsum (fun g => (cs 2).1 1 (zrow k * 24 + g)) n + 1 := zsum_put (k := f) (d := 1) (by rw [w1, pk_us]) (fun i hi => by rw [w1, pk_un (by omega)]) hf
    have r10 : upd (upd R (73 + 15 * f + k) (R (73 + 15 * f + k) + 1)) a (R a + 1) 10 = zsum (fun q => upd (upd R (73 + 15 * f + k) (R (73 + 15 * f + k) + 1)) a (R a + 1) (433 + 140 * q + 3)) 4 := by
      rw [fr 10 (by omega) (by omega), a5]
      exact zsum_eq (fun q hq => (fr _ (by omega) (by omega)).symm)
    rcases hk with ⟨rfl, rfl⟩ | ⟨rfl, rfl⟩ | ⟨rfl, rfl⟩ | ⟨rfl, rfl⟩
    · refine ⟨?_, ?_, ?_, ?_, r10⟩
      · rw [pk_us, a1]; exact more.symm
      · rw [fr 8 (by omega) (by omega), a2]; exact (same 11 (by omega) (by decide)).symm
      · rw [fr 9 (by omega) (by omega), a3]; exact (same 12 (by omega) (by decide)).symm
      · rw [fr 12 (by omega) (by omega), a4]; exact (same 18 (by omega) (by decide)).symm
    · refine ⟨?_, ?_, ?_, ?_, r10⟩
      · rw [fr 7 (by omega) (by omega), a1]; exact (same 10 (by omega) (by decide)).symm
      · rw [pk_us, a2]; exact more.symm
      · rw [fr 9 (by omega) (by omega), a3]; exact (same 12 (by omega) (by decide)).symm
      · rw [fr 12 (by omega) (by omega), a4]; exact (same 18 (by omega) (by decide)).symm
    · refine ⟨?_, ?_, ?_, ?_, r10⟩
      · rw [fr 7 (by omega) (by omega), a1]; exact (same 10 (by omega) (by decide)).symm
      · rw [fr 8 (by omega) (by omega), a2]; exact (same 11 (by omega) (by decide)).symm
      · rw [pk_us, a3]; exact more.symm
      · rw [fr 12 (by omega) (by omega), a4]; exact (same 18 (by omega) (by decide)).symm
    · refine ⟨?_, ?_, ?_, ?_, r10⟩
      · rw [fr 7 (by omega) (by omega), a1]; exact (same 10 (by omega) (by decide)).symm
      · rw [fr 8 (by omega) (by omega), a2]; exact (same 11 (by omega) (by decide)).symm
      · rw [fr 9 (by omega) (by omega), a3]; exact (same 12 (by omega) (by decide)).symm
      · rw [pk_us, a4]; exact more.symm
/-- the table's part alone changes -/
theorem SimX.hit {n nr : Nat} {m : Nat → Nat} {cs : Nat → RS} {R : Nat → Int32} {S : Nat → Int64} {e : Nat} {x : Int32} (h : SimX n nr m cs R S) (he : e < 16) : SimX n nr m (va_up cs 3 (rI (cs 3) 1 (upd ((cs 3).1 1) e x))) (upd R (39 + e) x) S := by
  obtain ⟨h0, hK, hF, hR, hT, hQ, hW, hG, hN, hO, hA⟩ := h
  have fr : ∀ i, i ≠ 39 + e → upd R (39 + e) x i = R i := fun i hi => pk_un hi
  refine ⟨?_, ?_, ?_, ?_, ?_, ?_, ?_, ?_, ?_, ?_, ?_⟩
  · rw [vu_n _ _ (by decide)]; exact h0
  · rw [vu_n _ _ (by decide)]; exact hK.fr (fun i hi => fr i (by omega))
  · rw [vu_n _ _ (by decide)]; exact hF.fr (fun i hi => fr i (by omega))
  · rw [vu_n _ _ (by decide)]; exact hR.fr (fun i hi => fr i (by omega))
  · rw [vu_s]
    intro j hj
    obtain ⟨t1, t2, t3⟩ := hT j hj
    rw [rI_n _ _ (by decide), rI_s, fr (23 + j) (by omega)]
    refine ⟨t1, ?_, t3⟩
    by_cases z : j = e
    · subst z; rw [pk_us, pk_us]
    · rw [pk_un z, fr (39 + j) (by omega)]; exact t2
  · intro p hp
    rw [vu_n _ _ (by omega)]; exact (hQ p hp).fr (fun i hi => fr i (by omega))
  · rw [vu_n _ _ (by decide)]; exact hW.fr (fun p hp => (hQ p hp).1) (fun i hi => fr i (by omega))
  · rw [vu_n _ _ (by decide)]; exact hG.fr (fun i hi => fr i (by omega))
  · rw [vu_n _ _ (by decide)]; exact hN
  · rw [vu_n _ _ (by decide)]; exact hO.fr (fun i hi => fr i (by omega))
  · rw [vu_n _ _ (by decide)]; exact hA.fr (fun i hi => fr i (by omega))
/-- a rule is used -/
theorem SimX.used {n nr : Nat} {m : Nat → Nat} {cs : Nat → RS} {R : Nat → Int32} {S : Nat → Int64} {f r : Nat} {x : Int32} {w : RS} (h : SimX n nr m cs R S) (hf : f < n) (hr : r < nr) (e : R (55 + 3 * r) = nI f) (w0 : w.1 0 = (cs 2).1 0) (w1 : w.1 1 = upd ((cs 2).1 1) (14 * 24 + f) x) : SimX n nr m (va_up cs 2 w) (upd R (55 + 3 * r + 2) x) S := by
  have hh := h
  obtain ⟨h0, hK, hF, hR, hT, hQ, hW, hG, hN, hO, hA⟩ := hh
  have hn24 : n ≤ 24 := hF.2.1
  have h6 : nr ≤ 6 := hR.1.1
  have fr : ∀ i, i ≠ 55 + 3 * r + 2 → upd R (55 + 3 * r + 2) x i = R i := fun i hi => pk_un hi
  have cc : ∀ a g, a < 20 → g < 24 → a ≠ 14 → w.1 1 (a * 24 + g) = (cs 2).1 1 (a * 24 + g) := by
    intro a g ha hg hne
    rw [w1, pk_un (by omega)]
  obtain ⟨g, g1, g2, g3, g4, g5⟩ := hR.1.2.2.2.1 r hr
  have gf : g = f := (nI_eq (by omega) (by omega)).mp (g2.symm.trans e)
  subst gf
  have ec : zputR ((cs 2).1 1) g ((cs 2).1 1 (13 * 24 + g)) x = w.1 1 := by
    rw [w1]
    unfold zputR
    congr 1
    funext j
    by_cases z : j = 13 * 24 + g
    · subst z; rw [pk_us]
    · rw [pk_un z]
  have er : zput8 R r (nI g) ((cs 2).1 1 (13 * 24 + g)) x = upd R (55 + 3 * r + 2) x := by
    unfold zput8
    rw [← g4, ← g2]
    congr 1
    funext j
    by_cases z : j = 55 + 3 * r + 1
    · subst z; rw [pk_us]
    · rw [pk_un z]
      by_cases z2 : j = 55 + 3 * r
      · subst z2; rw [pk_us]
      · rw [pk_un z2]
  have nq : ¬ (cs 2).1 1 (13 * 24 + g) = -1 := by simpa [zhasR] using g3
  have hrel := rRel_put (t := x) hn24 hR.1 hr g1 nq e
  rw [ec, er] at hrel
  refine h.flows w0 ?_ (sR_of hrel ?_ ?_) ?_ ?_ (fun i hi => fr i (by omega))
  · obtain ⟨f1, f2, f3, f4, f5, f6, f7, f8⟩ := hF.fr (R1 := upd R (55 + 3 * r + 2) x) (fun i hi => fr i (by omega))
    refine ⟨f1, f2, fun j k hj hk => ?_, f4, f5, f6, f7, fun j k q1 q2 q3 => ?_⟩
    · obtain ⟨z1, z2, z3, z4, z5⟩ := zrow_ne k hk
      rw [cc _ _ z5 (by omega) z2]; exact f3 j k hj hk
    · rw [w1, pk_un (by omega)]; exact f8 j k q1 q2 q3
  · intro j hj hz
    rw [cc 13 j (by omega) (by omega) (by omega)]
    exact hR.rng hn24 j hj (by rw [← hz]; unfold zhasR; rw [cc 13 j (by omega) (by omega) (by omega)])
  · intro j hj hz
    have hz' : zhasR ((cs 2).1 1) j = false := by rw [← hz]; unfold zhasR; rw [cc 13 j (by omega) (by omega) (by omega)]
    by_cases z : j = g
    · rw [z, g3] at hz'; cases hz'
    · rw [w1, pk_un (by omega)]; exact hR.2.2 j hj hz'
  · exact (hW.fr (fun p hp => (hQ p hp).1) (fun i hi => fr i (by omega))).fc (fun g hg => cc 7 g (by omega) (by omega) (by omega)) (fun g hg => cc 8 g (by omega) (by omega) (by omega))
  · exact (hA.fr (fun i hi => fr i (by omega))).fc (fun a g ha hg => cc a g (by omega) (by omega) (by omega))
/-- one queue's part alone changes, and with it its numbers of the row -/
theorem SimX.queue {n nr : Nat} {m m1 : Nat → Nat} {cs : Nat → RS} {R R1 : Nat → Int32} {S : Nat → Int64} {q : Nat} {o : RS} (h : SimX n nr m cs R S) (hq : q < 4) (hm : ∀ p, p ≠ q → m1 p = m p) (ho : sQ n q (m1 q) o R1) (hW : sW n m1 ((cs 2).1 1) R1) (hA : sA n ((cs 2).1 1) R1) (fr : ∀ i, (i < 433 + 140 * q ∨ 573 + 140 * q ≤ i) → i ≠ 10 → R1 i = R i) : SimX n nr m1 (va_up cs (5 + q) o) R1 S := by
  obtain ⟨h0, hK, hF, hR, hT, hQ, -, hG, hN, hO, -⟩ := h
  refine ⟨?_, ?_, ?_, ?_, ?_, ?_, ?_, ?_, ?_, ?_, ?_⟩
  · rw [vu_n _ _ (by omega)]; exact h0
  · rw [vu_n _ _ (by omega)]; exact hK.fr (fun i hi => fr i (by omega) (by omega))
  · rw [vu_n _ _ (by omega)]; exact hF.fr (fun i hi => fr i (by omega) (by omega))
  · rw [vu_n _ _ (by omega)]; exact hR.fr (fun i hi => fr i (by omega) (by omega))
  · rw [vu_n _ _ (by omega)]; exact hT.fr (fun i hi => fr i (by omega) (by omega))
  · intro p hp
    by_cases e : p = q
    · subst e; rw [vu_s]; exact ho
    · rw [vu_n _ _ (by omega), hm p e]; exact (hQ p hp).fr (fun i hi => fr i (by omega) (by omega))
  · rw [vu_n _ _ (by omega)]; exact hW
  · rw [vu_n _ _ (by omega)]; exact hG.fr (fun i hi => fr i (by omega) (by omega))
  · rw [vu_n _ _ (by omega)]; exact hN
  · rw [vu_n _ _ (by omega)]; exact hO.fr (fun i hi => fr i (by omega) (by omega))
  · rw [vu_n _ _ (by omega)]; exact hA
theorem zqf_inj : ∀ a : Nat, a < 8 → ∀ b : Nat, b < 8 → zqf a = zqf b → a = b := by decide +kernel
/-- a number of a queue that no sum counts -/
theorem SimX.qfld {n nr : Nat} {m : Nat → Nat} {cs : Nat → RS} {R : Nat → Int32} {S : Nat → Int64} {q k : Nat} {x : Int32} (h : SimX n nr m cs R S) (hq : q < 4) (hk : k < 8) (k0 : k ≠ 0) (k3 : k ≠ 3) : SimX n nr m (va_up cs (5 + q) (rN (cs (5 + q)) (zqf k) x)) (upd R (433 + 140 * q + k) x) S := by
  have hh := h
  obtain ⟨h0, hK, hF, hR, hT, hQ, hW, hG, hN, hO, hA⟩ := hh
  have fr : ∀ i, i ≠ 433 + 140 * q + k → upd R (433 + 140 * q + k) x i = R i := fun i hi => pk_un hi
  obtain ⟨q1, q2, q3, q4, q5, q6⟩ := hQ q hq
  refine h.queue hq (fun _ _ => rfl) ?_ ?_ ?_ (fun i hi _ => fr i (by omega))
  · refine ⟨q1, by rw [fr _ (by omega)]; exact q2, fun j hj => ?_, fun i w hi hw => ?_, fun i hi => by rw [fr _ (by omega)]; exact q5 i hi, fun i hi => by rw [fr _ (by omega)]; exact q6 i hi⟩
    · by_cases e : j = k
      · subst e; rw [rN_s, pk_us]
      · rw [rN_n _ _ (fun z => e (zqf_inj j hj k hk z)), fr _ (by omega)]; exact q3 j hj
    · have := zqf_lt hk
      rw [rN_n _ _ (by omega), fr _ (by omega)]; exact q4 i w hi hw
  · have e : ∀ p, p < 4 → ∀ g, zcq (upd R (433 + 140 * q + k) x) (m p) p g = zcq R (m p) p g := by
      intro p hp g
      unfold zcq
      have := (hQ p hp).1
      exact zct_eq (fun i hi => by rw [fr _ (by omega)])
    intro g hg
    obtain ⟨w1, w2⟩ := hW g hg
    rw [e 0 (by omega), e 1 (by omega), e 2 (by omega), e 3 (by omega)]
    refine ⟨w1, ?_⟩
    rcases w2 with ⟨a, b⟩ | ⟨p, a, b, c, d⟩
    · exact Or.inl ⟨a, fun p hp => by rw [e p hp]; exact b p hp⟩
    · exact Or.inr ⟨p, a, b, by rw [e p a]; exact c, fun p' hp hne => by rw [e p' hp]; exact d p' hp hne⟩
  · obtain ⟨a1, a2, a3, a4, a5⟩ := hA
    refine ⟨by rw [fr _ (by omega)]; exact a1, by rw [fr _ (by omega)]; exact a2, by rw [fr _ (by omega)]; exact a3, by rw [fr _ (by omega)]; exact a4, ?_⟩
    rw [fr _ (by omega), a5]
    exact zsum_eq (fun p hp => (fr _ (by omega)).symm)
