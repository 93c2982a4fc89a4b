-- the pure side: first questions
theorem q8_in0 {x : Int32} {hi : Int64} {Q : Int32 → Prop} (n : Nat) (hn : n < 2147483648) (e : hi.toInt = n) (h1 : ∀ k, k ≤ n → x = nI k → Q 1) (h2 : (∀ k, k ≤ n → ¬ x = nI k) → Q 0) : wp_X8_in x.toInt64 0 hi Q := by
  refine q8_in (fun a b => ?_) (fun a => h2 (fun k hk z => a ?_))
  · rw [i64_toInt] at a b
    rw [e] at b
    obtain ⟨k, hk, ek⟩ := i32_of (n := n) a b hn
    exact h1 k hk ek
  · rw [i64_toInt, e, z, nI_toInt (by omega)]
    have w0 : (0 : Int64).toInt = 0 := by decide
    rw [w0]
    omega
theorem out_lt {x : Int32} {n : Nat} (hn : n + 1 < 2147483648) (h : ∀ k, k ≤ n → ¬ x = nI k) (h0 : ¬ x < 0) : ¬ x < nI (n + 1) := by
  obtain ⟨k, k31, e⟩ := nI_of h0
  intro z
  rw [e] at z
  have := (nI_ltI k31 (by omega)).mp z
  exact h k (by omega) e
theorem out_le {x : Int32} {n : Nat} (hn : n + 1 < 2147483648) (h : ∀ k, k ≤ n → ¬ x = nI k) (h0 : ¬ x < 0) : ¬ x ≤ nI n := by
  obtain ⟨k, k31, e⟩ := nI_of h0
  intro z
  rw [e] at z
  have := (nI_leI k31 (by omega)).mp z
  exact h k (by omega) e
theorem in_or_out (x : Int32) (n : Nat) : (∃ k, k ≤ n ∧ x = nI k) ∨ ∀ k, k ≤ n → ¬ x = nI k := by
  by_cases h : ∃ k, k ≤ n ∧ x = nI k
  · exact Or.inl h
  · exact Or.inr (fun k hk e => h ⟨k, hk, e⟩)
theorem va_up_id {α : Type} (f : Nat → α) (k : Nat) : va_up f k (f k) = f := by
  funext j
  by_cases e : j = k
  · subst e; rw [va_up_self]
  · rw [va_up_ne _ _ e]
theorem tN_id (u : TS) (k : Nat) : tN u (va_up u.2.2.1 k (u.2.2.1 k)) = u := by
  rw [va_up_id]
  rfl
theorem p_given {B : Nat} : pX_given (Rel B) (Rel (B + 30000)) := by
  intro u r x h
  replace h := h.up 30000
  unfold wp_X7_given wp_X7_given_10 wp_X7_given_28
  have hs := h.2.2.1.1
  obtain ⟨n, nr, m, -, -, -, -, -, -, -, hG, -⟩ := hs
  obtain ⟨k, t, g1, g2, g3, g4, g5, g6, g7⟩ := hG
  rcases in_or_out x 6 with ⟨j, hj, rfl⟩ | ho
  · refine ⟨fun c => absurd c (nI_pos (by omega)), fun _ => ⟨fun _ => ⟨in_nI (by omega) (by decide), ?_⟩, fun c => absurd (show nI j < nI 7 from nI_lt (by omega) (by decide)) c⟩⟩
    rw [zn_nI (by omega)]
    unfold wp_X8_given wp_X8_given_29
    intro r1 e1
    refine q8_in0 6 (by decide) (by decide) (fun _ _ _ => ⟨fun z => absurd z (by decide), fun _ => ⟨in_nI (by omega) (by decide), ?_⟩⟩) (fun ho => absurd rfl (ho j hj))
    rw [zn_nI (by omega), e1]
    exact ⟨g7 j (by omega), Rel_0 h⟩
  · have key : wp_X8_given r x (fun y r1 => (-1 : Int64) = y ∧ Rel (B + 30000) u r1) := by
      unfold wp_X8_given wp_X8_given_29
      intro r1 e1
      refine q8_in0 6 (by decide) (by decide) (fun j hj e => absurd e (ho j hj)) (fun _ => ⟨fun _ => ?_, fun z => absurd rfl z⟩)
      rw [e1]
      exact ⟨rfl, Rel_0 h⟩
    exact ⟨fun _ => key, fun c => ⟨fun z => absurd z (out_lt (n := 6) (by decide) ho c), fun _ => key⟩⟩
theorem p_window {B : Nat} : pX_window (Rel B) (Rel (B + 30000)) := by
  intro u r x h
  replace h := h.up 30000
  unfold wp_X7_window wp_X7_window_10 wp_X7_window_25
  have hs := h.2.2.1.1
  obtain ⟨n, nr, m, -, hK, -⟩ := hs
  rcases in_or_out x 40 with ⟨j, hj, rfl⟩ | ho
  · refine ⟨fun c => absurd c (nI_pos (by omega)), fun _ => ⟨fun _ => ?_, fun c => absurd (show nI j ≤ nI 40 from nI_le (by omega) (by decide)) c⟩⟩
    unfold wp_X2_bitsFrom
    refine ⟨in_nI (by omega) (by decide), fun u1 e1 => ?_⟩
    rw [tN_id] at e1
    rw [e1, zn_nI (by omega)]
    unfold wp_X8_window wp_X8_window_26
    intro r1 f1
    refine q8_in0 40 (by decide) (by decide) (fun _ _ _ => ⟨fun z => absurd z (by decide), fun _ => q8_windowAt j rfl (by omega) ?_⟩) (fun ho => absurd rfl (ho j hj))
    rw [f1]
    exact ⟨hK.1 j (by omega), Rel_0 h⟩
  · have key : wp_X8_window r x (fun y r1 => (0 : Int32) = y ∧ Rel (B + 30000) u r1) := by
      unfold wp_X8_window wp_X8_window_26
      intro r1 e1
      refine q8_in0 40 (by decide) (by decide) (fun j hj e => absurd e (ho j hj)) (fun _ => ⟨fun _ => ?_, fun z => absurd rfl z⟩)
      rw [e1]
      exact ⟨rfl, Rel_0 h⟩
    exact ⟨fun _ => key, fun c => ⟨fun z => absurd z (out_le (n := 40) (by decide) ho c), fun _ => key⟩⟩
