-- the pure side: flows asked for; hashOf
theorem l_pred : ∀ n : Nat, n < 25 → ((nI n).toInt64 - 1).toInt = (n : Int) - 1 := by decide +kernel
theorem q8_flowAt {x0 : Int32} {Q : Int32 → Prop} (f : Nat) (e : x0 = nI f) (h : Q (nI (73 + 15 * f))) : wp_X8_flowAt x0 Q := by
  subst e
  unfold wp_X8_flowAt
  rw [nI_lmul, nI_ladd]
  exact h
theorem q8_isFlow {u : RS} {x1 : Int32} {Q : Int32 → RS → Prop} (n : Nat) (hn : u.1 3 4 = nI n) (h24 : n ≤ 24) (h1 : ∀ f, f < n → x1 = nI f → Q 1 u) (h2 : (∀ f, f < n → ¬ x1 = nI f) → Q 0 u) : wp_X8_isFlow u x1 Q := by
  unfold wp_X8_isFlow
  rw [hn]
  have w0 : (0 : Int64).toInt = 0 := by decide
  refine q8_in (fun a b => ⟨Or.inr rfl, ?_⟩) (fun a => ⟨Or.inl rfl, h2 (fun f hf z => a ?_)⟩)
  · rw [i64_toInt, w0] at a
    rw [i64_toInt, l_pred n (by omega)] at b
    obtain ⟨k, hk, ek⟩ := i32_of (x := x1) (n := n) a (by omega) (by omega)
    rw [ek, nI_toInt (by omega)] at b
    exact h1 k (by omega) ek
  · rw [i64_toInt, l_pred n (by omega), w0, z, nI_toInt (by omega)]
    omega
theorem q7_isFlow {u : TS} {x1 : Int32} {Q : Int32 → TS → Prop} (n : Nat) (hn : (u.2.2.1 2).1 0 0 = nI n) (h24 : n ≤ 24) (h1 : ∀ f, f < n → x1 = nI f → Q 1 u) (h2 : (∀ f, f < n → ¬ x1 = nI f) → Q 0 u) : wp_X7_isFlow u x1 Q := by
  unfold wp_X7_isFlow wp_X7_isFlow_22 wp_X7_isFlow_23
  rw [hn]
  refine ⟨fun c => ⟨Or.inl rfl, h2 (fun f hf e => ?_)⟩, fun c => ⟨fun d => ⟨Or.inl rfl, h2 (fun f hf e => ?_)⟩, fun d => ⟨Or.inr rfl, ?_⟩⟩⟩
  · rw [e] at c; exact nI_pos (by omega) c
  · rw [e] at d; exact nI_ge hf (by omega) d
  · obtain ⟨k, k31, e⟩ := nI_of c
    refine h1 k ?_ e
    rw [e] at d
    rcases Nat.lt_or_ge k n with q | q
    · exact q
    · exact absurd (nI_le q k31) d
theorem q5_hashFlow {cs : Nat → RS} {x1 : Int32} {Q : Int32 → (Nat → RS) → Prop} (f : Nat) (e : x1 = nI f) (hf : f < 24) (h : Q (zhf ((cs 1).1 1) ((cs 1).1 0 0) ((cs 2).1 1 (0 * 24 + f)) ((cs 2).1 1 (1 * 24 + f)) ((cs 2).1 1 (2 * 24 + f)) ((cs 2).1 1 (3 * 24 + f)) ((cs 2).1 1 (4 * 24 + f))) cs) : wp_X5_hashFlow cs x1 Q := by
  unfold wp_X5_hashFlow
  refine q0_get 0 f rfl e (by omega) hf (fun c1 d1 => ?_)
  rw [va_up_id] at d1
  subst d1
  refine q0_get 1 f rfl e (by omega) hf (fun c2 d2 => ?_)
  rw [va_up_id] at d2
  subst d2
  refine q0_get 2 f rfl e (by omega) hf (fun c3 d3 => ?_)
  rw [va_up_id] at d3
  subst d3
  refine q0_get 3 f rfl e (by omega) hf (fun c4 d4 => ?_)
  rw [va_up_id] at d4
  subst d4
  refine q0_get 4 f rfl e (by omega) hf (fun c5 d5 => ?_)
  rw [va_up_id] at d5
  subst d5
  refine q2_hashFields (fun c6 d6 => ?_)
  rw [va_up_id] at d6
  subst d6
  exact h
/-- the class's hash of a flow is the one the reference laid -/
theorem Sim.hash {cs : Nat → RS} {R : Nat → Int32} {n f : Nat} (hK : sK (cs 1) R) (hF : sF n ((cs 2).1 1) R) (hf : f < n) : zhf ((cs 1).1 1) ((cs 1).1 0 0) ((cs 2).1 1 (0 * 24 + f)) ((cs 2).1 1 (1 * 24 + f)) ((cs 2).1 1 (2 * 24 + f)) ((cs 2).1 1 (3 * 24 + f)) ((cs 2).1 1 (4 * 24 + f)) = R (73 + 15 * f + 14) := by
  obtain ⟨f1, f2, f3, f4, f5, f6, f7, f8⟩ := hF
  have e : ∀ k, k < 5 → (cs 2).1 1 (k * 24 + f) = R (73 + 15 * f + k) := by
    intro k hk
    have := f3 f k hf (by omega)
    match k, hk, this with
    | 0, _, t => exact t
    | 1, _, t => exact t
    | 2, _, t => exact t
    | 3, _, t => exact t
    | 4, _, t => exact t
  rw [e 0 (by omega), e 1 (by omega), e 2 (by omega), e 3 (by omega), e 4 (by omega), hK.2.2.1, zhf_eq _ _ _ _ _ _ hK.1]
  exact (f7 f hf).symm
theorem p_hashOf {B : Nat} : pX_hashOf (Rel B) (Rel (B + 30000)) := by
  intro u r x h
  replace h := h.up 30000
  have hs : Sim u.2.2.1 (r.1 3) (r.2 4) := h.2.2.1.1
  obtain ⟨n, nr, m, h0, hK, hF, -⟩ := hs
  have h24 : n ≤ 24 := hF.2.1
  have h4 : (rN r 0 0).1 3 4 = nI n := hF.1
  unfold wp_X7_hashOf wp_X7_hashOf_20
  refine q7_isFlow n h0 h24 (fun f hf e => ⟨fun z => absurd z (by decide), fun _ => q5_hashFlow f e (by omega) (fun u1 e1 => ?_)⟩) (fun ho => ⟨fun _ => ?_, fun z => absurd rfl z⟩)
  · have e1 : u1 = u := e1
    rw [e1]
    unfold wp_X8_hashOf wp_X8_hashOf_29
    intro r1 f1
    subst f1
    refine q8_isFlow n h4 h24 (fun _ _ _ => ⟨fun z => absurd z (by decide), fun _ => ?_⟩) (fun ho => absurd e (ho f hf))
    refine q8_flowAt f e ?_
    rw [nI_addl, zn_nI (by omega)]
    exact ⟨in_nI (by omega) (by decide), Sim.hash hK hF hf, Rel_0 h⟩
  · unfold wp_X8_hashOf wp_X8_hashOf_29
    intro r1 f1
    subst f1
    exact q8_isFlow n h4 h24 (fun f hf e => absurd e (ho f hf)) (fun _ => ⟨fun _ => ⟨rfl, Rel_0 h⟩, fun z => absurd rfl z⟩)
