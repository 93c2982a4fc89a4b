-- the pure side: an act begins; refusals
def Rel0 (B : Nat) (u : TS) (r : RS) : Prop := (∀ k, k < 6 → u.1.1 3 k = r.1 2 k) ∧ SimB B u.2.2.1 (r.1 3) (r.2 4) ∧
  (∃ m t, m ≤ 8 ∧ t < 8 ∧ u.2.1.1 0 0 = nI m ∧ r.1 8 0 = nI m ∧ u.2.1.1 3 0 = nI t ∧ ∀ a, a < m → u.2.1.1 2 ((t + 8 - a) % 8) = r.1 7 (m - 1 - a) ∧ ∃ q : PS, u.2.2.2.1 ((t + 8 - a) % 8) = some q ∧ SimB B q.2 (fun i => r.1 5 (1065 * (m - 1 - a) + i)) (fun i => r.2 6 (7 * (m - 1 - a) + i))) ∧
  (∀ k q, k < 8 → u.2.2.2.1 k = some q → sN (q.2 4)) ∧
  (∀ k, k < 2 → (u.2.2.2.2 k = none ∧ r.1 11 k = 0) ∨ ∃ q : PS, u.2.2.2.2 k = some q ∧ r.1 11 k = 1 ∧ SimB B q.2 (fun i => r.1 9 (1065 * k + i)) (fun i => r.2 10 (7 * k + i))) ∧
  (∀ q : PS, u.2.2.2.2 2 = some q → sN (q.2 4))
theorem Rel_iff (B : Nat) (u : TS) (r : RS) : Rel B u r ↔ u.1.1 4 0 = r.1 1 0 ∧ Rel0 B u r := Iff.rfl
/-- what stands changes on both sides; what else Rel0 looks at stays -/
theorem Rel0.now {B : Nat} {u u1 : TS} {r r1 : RS} (h : Rel0 B u r) (hu : u1.1.1 3 = u.1.1 3 ∧ u1.2.1 = u.2.1 ∧ u1.2.2.2.1 = u.2.2.2.1 ∧ (∀ k, k < 2 → u1.2.2.2.2 k = u.2.2.2.2 k) ∧ ∀ q : PS, u1.2.2.2.2 2 = some q → sN (q.2 4)) (h2 : r1.1 2 = r.1 2) (h5 : r1.1 5 = r.1 5) (h7 : r1.1 7 = r.1 7) (h8 : r1.1 8 = r.1 8) (h9 : r1.1 9 = r.1 9) (h11 : r1.1 11 = r.1 11) (l6 : r1.2 6 = r.2 6) (l10 : r1.2 10 = r.2 10) (hs : SimB B u1.2.2.1 (r1.1 3) (r1.2 4)) : Rel0 B u1 r1 := by
  obtain ⟨a1, a2, a3, a4, a5, a6⟩ := h
  obtain ⟨b1, b2, b3, b4, b5⟩ := hu
  refine ⟨?_, hs, ?_, ?_, ?_, b5⟩
  · rw [b1, h2]; exact a1
  · rw [b2, b3, h8, h7, h5, l6]; exact a3
  · rw [b3]; exact a4
  · intro k hk
    rw [b4 k hk, h11, h9, l10]
    exact a5 k hk
theorem zring : ∀ t : Nat, t < 8 → nI t + 1 - (nI t + 1) / 8 * 8 = nI ((t + 1) % 8) := by decide +kernel
theorem zmin8 : ∀ m : Nat, m < 9 → zmin 8 (nI m + 1) = nI ((if m = 8 then 7 else m) + 1) := by decide +kernel
theorem q1_keep {B : Nat} {h : RS} {sl : SL} {v : Nat → RS} {act : Int32} {Q : RS → SL → Prop} {R : Nat → Int32} {S : Nat → Int64} (m t : Nat) (hm : h.1 0 0 = nI m) (h8 : m ≤ 8) (ht : h.1 3 0 = nI t) (ht8 : t < 8) (hv : SimB B v R S) (hsl : ∀ k q, k < 8 → sl k = some q → sN (q.2 4)) (hQ : ∀ (h1 : RS) (q : PS), SimB B q.2 R S → h1.1 0 0 = nI ((if m = 8 then 7 else m) + 1) → h1.1 3 0 = nI ((t + 1) % 8) → h1.1 2 = upd (h.1 2) ((t + 1) % 8) act → Q h1 (va_up sl ((t + 1) % 8) (some q))) : wp_X1_keep h sl v act Q := by
  unfold wp_X1_keep
  intro x ex
  rw [ht, zring t ht8] at ex
  subst ex
  have hlt : (t + 1) % 8 < 8 := Nat.mod_lt _ (by omega)
  rw [zn_nI (by omega)]
  refine ⟨in_nI hlt (by decide), q7_copied hv (fun q hq => hsl _ q hlt hq) (fun q hq h1 e1 h2 e2 => hQ _ q hq ?_ ?_ ?_)⟩
  · rw [rN_s, e2, rI_n _ _ (by decide), e1, rN_n _ _ (by decide), hm, zmin8 m (by omega)]
  · rw [rN_n _ _ (by decide), e2, rI_n _ _ (by decide), e1, rN_s]
  · rw [rN_n _ _ (by decide), e2, rI_s, e1, rN_n _ _ (by decide)]
theorem q7_begin {B : Nat} {u : TS} {r : RS} {act : Int32} {Q : TS → Prop} (h : Rel0 B u r) (hQ : ∀ u1 : TS, u1.1.1 4 0 = 0 → u1.2.2.1 = u.2.2.1 → u1.1.1 6 = u.1.1 6 → (∀ (m : Nat) (v : RS), r.1 8 0 = nI m → m ≤ 8 → zrem r m act v → Rel0 B u1 v) → Q u1) : wp_X7_begin u act Q := by
  unfold wp_X7_begin
  intro u1 e1
  obtain ⟨a1, a2, ⟨m, t, m1, t1, m2, m3, m4, m5⟩, a4, a5, a6⟩ := h
  have d1 : u1.2 = u.2 := by rw [e1]; rfl
  have d2 : u1.1 = rN u.1 4 0 := by rw [e1]; rfl
  rw [d1]
  refine q1_keep (R := r.1 3) (S := r.2 4) m t m2 m1 m4 t1 a2 a4 (fun h1 q hq n1 n2 n3 u2 e2 => hQ u2 ?_ ?_ ?_ (fun m' v hm' hm8 hz => ?_))
  · rw [e2]; show u1.1.1 4 0 = 0; rw [d2, rN_s]
  · rw [e2]; show u1.2.2.1 = _; rw [d1]
  · rw [e2]; show u1.1.1 6 = _; rw [d2, rN_n _ _ (by decide)]
  · have em : m' = m := (nI_eq (by omega) (by omega)).mp (hm'.symm.trans m3)
    subst em
    obtain ⟨p, d, hpd, z1, z2, z3, z4, z5, z6, z7, z9, z10⟩ := hz
    have ep : (if m' = 8 then 7 else m') = p := by
      rcases hpd with ⟨q1, q2, q3⟩ | ⟨q1, q2, q3⟩
      · rw [if_neg (by omega), q2]
      · rw [if_pos q1, q2]
    have epd : p + d = m' := by rcases hpd with ⟨q1, q2, q3⟩ | ⟨q1, q2, q3⟩ <;> omega
    have hp7 : p ≤ 7 := by rcases hpd with ⟨q1, q2, q3⟩ | ⟨q1, q2, q3⟩ <;> omega
    rw [ep] at n1
    have f1 : u2.1 = u1.1 := by rw [e2]; rfl
    have f2 : u2.2.1 = h1 := by rw [e2]; rfl
    have f3 : u2.2.2.1 = u.2.2.1 := by rw [e2]; show u1.2.2.1 = _; rw [d1]
    have f4 : u2.2.2.2.1 = va_up u.2.2.2.1 ((t + 1) % 8) (some q) := by rw [e2]; rfl
    have f5 : u2.2.2.2.2 = u.2.2.2.2 := by rw [e2]; show u1.2.2.2.2 = _; rw [d1]
    refine ⟨?_, ?_, ⟨p + 1, (t + 1) % 8, by omega, Nat.mod_lt _ (by omega), by rw [f2]; exact n1, z3, by rw [f2]; exact n2, ?_⟩, ?_, ?_, ?_⟩
    · intro k hk
      rw [f1, d2, rN_n _ _ (by decide), z1 2 (by decide) (by decide) (by decide)]; exact a1 k hk
    · rw [f3, z1 3 (by decide) (by decide) (by decide), z2 4 (by decide)]; exact a2
    · intro a ha
      rw [f2, f4, n3]
      by_cases e : a = 0
      · subst e
        rw [show ((t + 1) % 8 + 8 - 0) % 8 = (t + 1) % 8 by omega, pk_us, va_up_self]
        refine ⟨by rw [show p + 1 - 1 - 0 = p by omega]; exact z10.symm, q, rfl, ?_⟩
        refine hq.row (fun i hi => ?_) (fun i hi => ?_)
        · rw [show p + 1 - 1 - 0 = p by omega]; exact z5 i hi
        · rw [show p + 1 - 1 - 0 = p by omega]; exact z7 i hi
      · have hne : ((t + 1) % 8 + 8 - a) % 8 ≠ (t + 1) % 8 := by omega
        rw [pk_un hne, va_up_ne _ _ hne]
        obtain ⟨c1, q', c2, c3⟩ := m5 (a - 1) (by omega)
        rw [show (t + 8 - (a - 1)) % 8 = ((t + 1) % 8 + 8 - a) % 8 by omega] at c1 c2
        refine ⟨?_, q', c2, ?_⟩
        · rw [c1, z9 _ (by omega)]
          exact congrArg (r.1 7) (by omega)
        · refine c3.row (fun i hi => ?_) (fun i hi => ?_)
          · show v.1 5 (1065 * (p + 1 - 1 - a) + i) = r.1 5 (1065 * (m' - 1 - (a - 1)) + i)
            rw [z4 _ _ (by omega) hi, show p + 1 - 1 - a + d = m' - 1 - (a - 1) by omega]
          · show v.2 6 (7 * (p + 1 - 1 - a) + i) = r.2 6 (7 * (m' - 1 - (a - 1)) + i)
            rw [z6 _ _ (by omega) hi, show p + 1 - 1 - a + d = m' - 1 - (a - 1) by omega]
    · intro k q0 hk hq0
      rw [f4] at hq0
      by_cases e : k = (t + 1) % 8
      · subst e
        rw [va_up_self] at hq0
        cases hq0
        exact hq.sN
      · rw [va_up_ne _ _ e] at hq0
        exact a4 k q0 hk hq0
    · intro k hk
      rw [f5, z1 11 (by decide) (by decide) (by decide), z1 9 (by decide) (by decide) (by decide), z2 10 (by decide)]
      exact a5 k hk
    · rw [f5]; exact a6
theorem q8_rem {B : Nat} {r : RS} {x1 : Int32} {u : TS} {Q : RS → Prop} (h : Rel0 B u r) (hQ : ∀ (m : Nat) (v : RS), r.1 8 0 = nI m → m ≤ 8 → zrem r m x1 v → Q v) : wp_X8_remember r x1 Q := by
  obtain ⟨-, -, ⟨m, t, m1, -, -, m3, -⟩, -⟩ := h
  exact q8_remember m m3 m1 (fun v hv => hQ m v m3 m1 hv)
/-- a refusal on both sides -/
theorem k_refuse {B : Nat} {u : TS} {r : RS} {Q : Int32 → TS → Prop} (z : Nat) (x : Int32) (hz : z < 6) (hx : -x = nI z) (h : Rel0 B u r) (hQ : ∀ u1 : TS, (∀ Q1 : Int32 → RS → Prop, (∀ r1 : RS, Rel B u1 r1 → Q1 x r1) → wp_X8_refuse r x Q1) → Q x u1) : wp_X7_refuse u x Q := by
  unfold wp_X7_refuse
  intro u1 e1
  rw [hx, zn_nI (by omega)]
  refine ⟨in_nI hz (by decide), in_nI hz (by decide), fun u2 e2 => hQ u2 (fun Q1 hQ1 => ?_)⟩
  unfold wp_X8_refuse
  intro r1 d1
  rw [hx, zn_nI (by omega)]
  refine ⟨in_nI hz (by decide), in_nI hz (by decide), fun r2 d2 => hQ1 r2 ?_⟩
  have g1 : u2.1 = rI (rN u.1 4 x) 3 (upd (u.1.1 3) z (u.1.1 3 z + 1)) := by
    rw [e2, e1]
    show rI (rN u.1 4 x) 3 (upd ((rN u.1 4 x).1 3) z ((rN u.1 4 x).1 3 z + 1)) = _
    rw [rN_n _ _ (by decide)]
  have g2 : u2.2 = u.2 := by rw [e2, e1]; rfl
  have g3 : r2 = rI (rN r 1 x) 2 (upd (r.1 2) z (r.1 2 z + 1)) := by
    rw [d2, d1, rN_n _ _ (by decide)]
  obtain ⟨a1, a2, a3, a4, a5, a6⟩ := h
  refine ⟨?_, ?_, ?_, ?_, ?_, ?_, ?_⟩
  · rw [g1, g3, rI_n _ _ (by decide), rN_s, rI_n _ _ (by decide), rN_s]
  · intro k hk
    rw [g1, g3, rI_s, rI_s]
    by_cases e : k = z
    · subst e; rw [pk_us, pk_us, a1 k hk]
    · rw [pk_un e, pk_un e]; exact a1 k hk
  · rw [g2, g3, rI_n _ _ (by decide), rN_n _ _ (by decide), rI_2, rN_2]; exact a2
  · rw [g2, g3, rI_n _ _ (by decide), rI_n _ _ (by decide), rI_n _ _ (by decide), rN_n _ _ (by decide), rN_n _ _ (by decide), rN_n _ _ (by decide), rI_2, rN_2]; exact a3
  · rw [g2]; exact a4
  · rw [g2, g3, rI_n _ _ (by decide), rI_n _ _ (by decide), rN_n _ _ (by decide), rN_n _ _ (by decide), rI_2, rN_2]; exact a5
  · rw [g2]; exact a6
