-- the pure side: table
theorem q8_isQueue {x : Int32} {Q : Int32 → Prop} (h1 : ∀ k, k ≤ 3 → x = nI k → Q 1) (h2 : (∀ k, k ≤ 3 → ¬ x = nI k) → Q 0) : wp_X8_isQueue x Q := by
  unfold wp_X8_isQueue
  exact q8_in0 3 (by decide) (by decide) (fun k hk e => ⟨Or.inr rfl, h1 k hk e⟩) (fun ho => ⟨Or.inl rfl, h2 ho⟩)
theorem q8_becomes {B : Nat} {u : TS} {r : RS} {x1 x2 s : Int32} {Q : Int32 → RS → Prop} (h : Rel0 B u r) (a : Nat) (e : x1 = nI a) (ha : a < 1065) (hQ : ∀ (m : Nat) (v r2 : RS), r.1 8 0 = nI m → m ≤ 8 → zrem r m s v → r2 = rN (rI v 3 (upd (r.1 3) a x2)) 1 0 → Q (r.1 3 a) r2) : wp_X8_becomes r x1 x2 s Q := by
  subst e
  unfold wp_X8_becomes
  refine q8_rem h (fun m v m1 m2 hz => ?_)
  rw [zn_nI (by omega)]
  have e3 : v.1 3 = r.1 3 := by
    obtain ⟨p, d, -, z1, -⟩ := hz
    exact z1 3 (by decide) (by decide) (by decide)
  refine ⟨in_nI ha (by decide), fun y ey => ⟨in_nI ha (by decide), fun r1 e1 => ?_⟩⟩
  unfold wp_X8_tell
  intro r2 e2
  rw [ey, e3]
  exact hQ m v r2 m1 m2 hz (by rw [e2, e1, e3])
/-- the reference put one number, the class what goes with it -/
theorem k_put {B : Nat} {u1 u2 : TS} {r v r2 : RS} {cs : Nat → RS} {m a : Nat} {s x2 : Int32} (hv : Rel0 B u1 v) (l1 : u1.1.1 4 0 = 0) (hu : u2 = tN u1 cs) (hz : zrem r m s v) (hr : r2 = rN (rI v 3 (upd (r.1 3) a x2)) 1 0) (hs : SimB B cs (upd (r.1 3) a x2) (r.2 4)) : Rel B u2 r2 := by
  refine k_end hv l1 hu (by rw [hr, rN_s]) (fun k hk => ?_) (fun k hk => by rw [hr, rN_2, rI_2]) ?_
  · rw [hr, rN_n _ _ (by omega), rI_n _ _ (by omega)]
  · obtain ⟨p, d, -, -, z2, -⟩ := hz
    rw [hr, rN_n _ _ (by decide), rI_s, rN_2, rI_2, z2 4 (by decide)]
    exact hs
theorem q7_isEntry {x : Int32} {Q : Int32 → Prop} (h1 : ∀ k, k ≤ 15 → x = nI k → Q 1) (h2 : (∀ k, k ≤ 15 → ¬ x = nI k) → Q 0) : wp_X7_isEntry x Q := by
  unfold wp_X7_isEntry wp_X7_isEntry_14 wp_X7_isEntry_15
  rcases in_or_out x 15 with ⟨j, hj, rfl⟩ | ho
  · exact ⟨fun c => absurd c (nI_pos (by omega)), fun _ => ⟨fun c => absurd c (nI_ge (b := 16) (by omega) (by decide)), fun _ => ⟨Or.inr rfl, h1 j hj rfl⟩⟩⟩
  · refine ⟨fun _ => ⟨Or.inl rfl, h2 ho⟩, fun c => ⟨fun _ => ⟨Or.inl rfl, h2 ho⟩, fun d => absurd (Int32.not_le.mp d) (out_lt (n := 15) (by decide) ho c)⟩⟩
theorem q7_isQueue {x : Int32} {Q : Int32 → Prop} (h1 : ∀ k, k ≤ 3 → x = nI k → Q 1) (h2 : (∀ k, k ≤ 3 → ¬ x = nI k) → Q 0) : wp_X7_isQueue x Q := by
  unfold wp_X7_isQueue wp_X7_isQueue_13 wp_X7_isQueue_14
  rcases in_or_out x 3 with ⟨j, hj, rfl⟩ | ho
  · exact ⟨fun c => absurd c (nI_pos (by omega)), fun _ => ⟨fun c => absurd c (nI_ge (b := 4) (by omega) (by decide)), fun _ => ⟨Or.inr rfl, h1 j hj rfl⟩⟩⟩
  · refine ⟨fun _ => ⟨Or.inl rfl, h2 ho⟩, fun c => ⟨fun _ => ⟨Or.inl rfl, h2 ho⟩, fun d => absurd (Int32.not_le.mp d) (out_lt (n := 3) (by decide) ho c)⟩⟩
theorem p_table {B : Nat} : pX_table (Rel B) (Rel (B + 30000)) := by
  intro u r x1 x2 h
  replace h := h.up 30000
  have h0 : Rel0 (B + 30000) u (rN r 0 0) := h.2
  have no : ((∀ k, k ≤ 15 → ¬ x1 = nI k) ∨ (∀ k, k ≤ 3 → ¬ x2 = nI k)) → wp_X7_table_14 (fun x u1 => wp_X8_table r x1 x2 (fun y r1 => x = y ∧ Rel (B + 30000) u1 r1)) u := by
    intro ho
    unfold wp_X7_table_14
    refine k_refuse 1 (-1) (by decide) (by decide) h0 (fun u1 hu => ?_)
    unfold wp_X8_table wp_X8_table_37 wp_X8_table_42
    intro r1 e1
    rw [e1]
    refine q8_in0 15 (by decide) (by decide) (fun k hk e => ⟨fun z => absurd z (by decide), fun _ => q8_isQueue (fun j hj f => ?_) (fun _ => ⟨fun _ => hu _ (fun r2 hr => ⟨rfl, hr⟩), fun z => absurd rfl z⟩)⟩) (fun _ => ⟨fun _ => hu _ (fun r2 hr => ⟨rfl, hr⟩), fun z => absurd rfl z⟩)
    rcases ho with ho | ho
    · exact absurd e (ho k hk)
    · exact absurd f (ho j hj)
  unfold wp_X7_table
  refine q7_isEntry (fun e he ee => ⟨fun z => absurd z (by decide), fun _ => q7_isQueue (fun q hq eq => ⟨fun _ => ?_, fun z => absurd z (by decide)⟩) (fun ho => ⟨fun z => absurd rfl z, fun _ => no (Or.inr ho)⟩)⟩) (fun ho => ⟨fun _ => no (Or.inl ho), fun z => absurd rfl z⟩)
  subst ee eq
  refine q7_begin h0 (fun u1 l1 n1 o1 hrem => ?_)
  rw [zn_nI (by omega)]
  refine ⟨in_nI (by omega) (by decide), fun y ey => ⟨in_nI (by omega) (by decide), fun u2 e2 => ?_⟩⟩
  unfold wp_X8_table wp_X8_table_42
  intro r1 e1
  subst e1
  refine q8_in0 15 (by decide) (by decide) (fun _ _ _ => ⟨fun z => absurd z (by decide), fun _ => q8_isQueue (fun _ _ _ => ⟨fun z => absurd z (by decide), fun _ => ?_⟩) (fun ho => absurd rfl (ho q hq))⟩) (fun ho => absurd rfl (ho e he))
  have hs : Sim u.2.2.1 (r.1 3) (r.2 4) := h.2.2.1.1
  have ht : (u.2.2.1 3).1 0 e = r.1 3 (23 + e) := by
    obtain ⟨n, nr, m, -, -, -, -, hT, -⟩ := hs
    exact (hT e (by omega)).1
  refine q8_becomes h0 (23 + e) (by rw [nI_ladd]) (by omega) (fun m v r2 m1 m2 hz hr => ⟨?_, ?_⟩)
  · rw [ey, n1]; exact ht
  · rw [n1] at e2
    exact k_put (hrem m v m1 m2 hz) l1 e2 hz hr ⟨hs.table e q (by omega) (by omega), h.2.2.1.2.fr (fun i hi => pk_un (by omega)) (fun _ _ => rfl)⟩
