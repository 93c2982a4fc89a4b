-- the pure side: find
def nD (k : Nat) : Int32 := nI k - 1
theorem nD_0 : nD 0 < 0 := by decide
theorem nD_s (k : Nat) : nD (k + 1) = nI k := by
  unfold nD
  rw [← nI_1]
  exact Int32.add_sub_cancel _ _
theorem nI_dn (k : Nat) : nI k + (-1) = nD k := by
  unfold nD
  rw [Int32.sub_eq_add_neg]
def zeqf (u : RS) (f : Nat) : Prop := ∀ k, k < 5 → u.1 3 (73 + 15 * f + k) = u.1 14 k
theorem q8_found {u : RS} {Q : Int32 → RS → Prop} (n : Nat) (hn : u.1 3 4 = nI n) (h24 : n ≤ 24) (h1 : ∀ f, f < n → (∀ j, j < f → ¬ zeqf u j) → zeqf u f → Q (nI f) u) (h2 : (∀ j, j < n → ¬ zeqf u j) → Q (-1) u) : wp_X8_found u Q := by
  unfold wp_X8_found
  intro x ex
  rw [hn] at ex
  refine zl3 (wp_X8_found_11 Q) n (fun i v y1 y2 => v = u ∧ y2 = nD (n - i) ∧ ((y1 = -1 ∧ ∀ j, n - i ≤ j → j < n → ¬ zeqf u j) ∨ ∃ f, n - i ≤ f ∧ f < n ∧ y1 = nI f ∧ zeqf u f ∧ ∀ j, n - i ≤ j → j < f → ¬ zeqf u j)) ?_ 0 (Nat.zero_le _) u _ _ ⟨rfl, ex, Or.inl ⟨rfl, fun j h3 h4 => absurd h4 (by omega)⟩⟩
  rintro i B v y1 y2 hi ⟨rfl, rfl, hp⟩ hB
  unfold wp_X8_found_11
  refine ⟨fun hc => ?_, fun hc => ?_⟩
  · have hin : i = n := by
      rcases Nat.lt_or_ge i n with q | q
      · rw [show n - i = (n - i - 1) + 1 by omega, nD_s] at hc
        exact absurd hc (nI_pos (by omega))
      · omega
    subst hin
    rcases hp with ⟨rfl, hp⟩ | ⟨f, f1, f2, rfl, f3, f4⟩
    · exact h2 (fun j hj => hp j (by omega) hj)
    · exact h1 f f2 (fun j hj => f4 j (by omega) hj) f3
  · have hlt : i < n := by
      rcases Nat.lt_or_ge i n with q | q
      · exact q
      · rw [show n - i = 0 by omega] at hc
        exact absurd nD_0 hc
    obtain ⟨g, eg⟩ : ∃ g, n - i = g + 1 := ⟨n - i - 1, by omega⟩
    rw [eg, nD_s]
    have next : n - (i + 1) = g := by omega
    refine zl5 (wp_X8_found_20 Q B) 5 (fun k w z1 z2 z3 z4 => w = v ∧ z1 = y1 ∧ z2 = nI g ∧ z4 = nI k ∧ ((z3 = 1 ∧ ∀ j, j < k → v.1 3 (73 + 15 * g + j) = v.1 14 j) ∨ (z3 = 0 ∧ ¬ zeqf v g))) ?_ 0 (Nat.zero_le _) v y1 (nI g) 1 0 ⟨rfl, rfl, rfl, rfl, Or.inl ⟨rfl, fun j hj => absurd hj (Nat.not_lt_zero j)⟩⟩
    rintro k B2 w z1 z2 z3 z4 hk ⟨rfl, rfl, rfl, rfl, hz⟩ hB2
    unfold wp_X8_found_20
    refine ⟨fun hc2 => ?_, fun hc2 => ?_⟩
    · have hk5 := nI_stop (N := 5) (by decide) hk hc2
      subst hk5
      unfold wp_X8_found_73
      have fin : ∀ t : Int32, ((t = z1 ∧ ¬ zeqf w g) ∨ (t = nI g ∧ zeqf w g)) → ∀ x105 : Int32, x105 = nI g + (-1) → B w t x105 := by
        intro t ht y ey
        refine hB _ _ _ hlt ⟨rfl, by rw [ey, nI_dn, next], ?_⟩
        rw [next]
        rcases ht with ⟨rfl, ht⟩ | ⟨rfl, ht⟩
        · rcases hp with ⟨e, hp⟩ | ⟨f, f1, f2, e, f3, f4⟩
          · refine Or.inl ⟨e, fun j j1 j2 => ?_⟩
            by_cases q : j = g
            · rw [q]; exact ht
            · exact hp j (by omega) j2
          · refine Or.inr ⟨f, by omega, f2, e, f3, fun j j1 j2 => ?_⟩
            by_cases q : j = g
            · rw [q]; exact ht
            · exact f4 j (by omega) j2
        · exact Or.inr ⟨g, Nat.le_refl _, by omega, rfl, ht, fun j j1 j2 => absurd j2 (by omega)⟩
      rcases hz with ⟨rfl, hz⟩ | ⟨rfl, hz⟩
      · exact ⟨fun z => absurd z (by decide), fun _ => fin _ (Or.inr ⟨rfl, hz⟩)⟩
      · exact ⟨fun _ => fin _ (Or.inl ⟨rfl, hz⟩), fun z => absurd rfl z⟩
    · have hlt2 := nI_go (N := 5) (by decide) hk hc2
      unfold wp_X8_found_56 wp_X8_found_57
      rcases hz with ⟨rfl, hz⟩ | ⟨rfl, hz⟩
      · refine ⟨fun z => absurd z (by decide), fun _ => q8_flowAt g rfl ?_⟩
        rw [nI_add, zn_nI (by omega), zn_nI (by omega)]
        refine ⟨in_nI (by omega) (by decide), in_nI (by omega) (by decide), fun hne y ey => ?_, fun he y ey => ?_⟩
        · exact hB2 _ _ _ _ _ hlt2 ⟨rfl, rfl, rfl, by rw [ey, nI_1], Or.inr ⟨rfl, fun z => hne (z k hlt2)⟩⟩
        · refine hB2 _ _ _ _ _ hlt2 ⟨rfl, rfl, rfl, by rw [ey, nI_1], Or.inl ⟨rfl, fun j hj => ?_⟩⟩
          by_cases q : j = k
          · rw [q]; exact he
          · exact hz j (by omega)
      · refine ⟨fun _ y ey => ?_, fun z => absurd rfl z⟩
        exact hB2 _ _ _ _ _ hlt2 ⟨rfl, rfl, rfl, by rw [ey, nI_1], Or.inr ⟨rfl, hz⟩⟩
/-- the class finds a flow where the reference does -/
theorem zisF_iff {n : Nat} {c R : Nat → Int32} (hF : sF n c R) {j : Nat} (hj : j < n) (a1 a2 a3 a4 a5 : Int32) : zisF c a1 a2 a3 a4 a5 j = true ↔ (R (73 + 15 * j + 0) = a1 ∧ R (73 + 15 * j + 1) = a2 ∧ R (73 + 15 * j + 2) = a3 ∧ R (73 + 15 * j + 3) = a4 ∧ R (73 + 15 * j + 4) = a5) := by
  obtain ⟨f1, f2, f3, -⟩ := hF
  have e0 : c (0 * 24 + j) = R (73 + 15 * j + 0) := f3 j 0 hj (by omega)
  have e1 : c (1 * 24 + j) = R (73 + 15 * j + 1) := f3 j 1 hj (by omega)
  have e2 : c (2 * 24 + j) = R (73 + 15 * j + 2) := f3 j 2 hj (by omega)
  have e3 : c (3 * 24 + j) = R (73 + 15 * j + 3) := f3 j 3 hj (by omega)
  have e4 : c (4 * 24 + j) = R (73 + 15 * j + 4) := f3 j 4 hj (by omega)
  rw [Nat.zero_mul, Nat.zero_add] at e0
  rw [Nat.one_mul] at e1
  unfold zisF
  rw [← e0, ← e1, ← e2, ← e3, ← e4]
  simp only [Bool.and_eq_true, beq_iff_eq]
theorem zeqf_iff (u : RS) (x1 x2 x3 x4 x5 : Int32) (h : ∀ k, k < 5 → u.1 14 k = zfl (fun _ => 0) x1 x2 x3 x4 x5 k) (j : Nat) : zeqf u j ↔ (u.1 3 (73 + 15 * j + 0) = x1 ∧ u.1 3 (73 + 15 * j + 1) = x2 ∧ u.1 3 (73 + 15 * j + 2) = x3 ∧ u.1 3 (73 + 15 * j + 3) = x4 ∧ u.1 3 (73 + 15 * j + 4) = x5) := by
  have g0 : u.1 14 0 = x1 := h 0 (by omega)
  have g1 : u.1 14 1 = x2 := h 1 (by omega)
  have g2 : u.1 14 2 = x3 := h 2 (by omega)
  have g3 : u.1 14 3 = x4 := h 3 (by omega)
  have g4 : u.1 14 4 = x5 := h 4 (by omega)
  constructor
  · intro z
    exact ⟨(z 0 (by omega)).trans g0, (z 1 (by omega)).trans g1, (z 2 (by omega)).trans g2, (z 3 (by omega)).trans g3, (z 4 (by omega)).trans g4⟩
  · rintro ⟨z0, z1, z2, z3, z4⟩ k hk
    match k, hk with
    | 0, _ => exact z0.trans g0.symm
    | 1, _ => exact z1.trans g1.symm
    | 2, _ => exact z2.trans g2.symm
    | 3, _ => exact z3.trans g3.symm
    | 4, _ => exact z4.trans g4.symm
theorem zfl_5 (f : Nat → Int32) (x1 x2 x3 x4 x5 : Int32) : ∀ k, k < 5 → zfl f x1 x2 x3 x4 x5 k = zfl (fun _ => 0) x1 x2 x3 x4 x5 k := by
  intro k hk
  match k, hk with
  | 0, _ => rfl
  | 1, _ => rfl
  | 2, _ => rfl
  | 3, _ => rfl
  | 4, _ => rfl
/-- the flow with these fields, on both sides -/
theorem k_found {r : RS} {n : Nat} {c : Nat → Int32} {x1 x2 x3 x4 x5 : Int32} {Q : Int32 → RS → Prop} (hF : sF n c (r.1 3)) (h14 : ∀ k, k < 5 → r.1 14 k = zfl (fun _ => 0) x1 x2 x3 x4 x5 k) (h : ∀ x : Int32, ((∃ f, f < n ∧ x = nI f ∧ (∀ j, j < f → zisF c x1 x2 x3 x4 x5 j = false) ∧ zisF c x1 x2 x3 x4 x5 f = true) ∨ (x = -1 ∧ ∀ j, j < n → zisF c x1 x2 x3 x4 x5 j = false)) → Q x r) : wp_X8_found r Q := by
  have key : ∀ j, j < n → (zisF c x1 x2 x3 x4 x5 j = true ↔ zeqf r j) := fun j hj => (zisF_iff hF hj x1 x2 x3 x4 x5).trans (zeqf_iff r x1 x2 x3 x4 x5 h14 j).symm
  have no : ∀ j, j < n → ¬ zeqf r j → zisF c x1 x2 x3 x4 x5 j = false := by
    intro j hj hz
    cases e : zisF c x1 x2 x3 x4 x5 j with
    | false => rfl
    | true => exact absurd ((key j hj).mp e) hz
  refine q8_found n hF.1 hF.2.1 (fun f hf h3 h4 => h _ (Or.inl ⟨f, hf, rfl, fun j hj => no j (by omega) (h3 j hj), (key f hf).mpr h4⟩)) (fun h3 => h _ (Or.inr ⟨rfl, fun j hj => no j hj (h3 j hj)⟩))
theorem p_find {B : Nat} : pX_find (Rel B) (Rel (B + 30000)) := by
  intro u r x1 x2 x3 x4 x5 h
  replace h := h.up 30000
  have hs : Sim u.2.2.1 (r.1 3) (r.2 4) := h.2.2.1.1
  obtain ⟨n, nr, m, h0, hK, hF, -⟩ := hs
  have h24 : n ≤ 24 := hF.2.1
  have fin : ∀ x : Int32, ((∃ f, f < n ∧ x = nI f ∧ (∀ j, j < f → zisF ((u.2.2.1 2).1 1) x1 x2 x3 x4 x5 j = false) ∧ zisF ((u.2.2.1 2).1 1) x1 x2 x3 x4 x5 f = true) ∨ (x = -1 ∧ ∀ j, j < n → zisF ((u.2.2.1 2).1 1) x1 x2 x3 x4 x5 j = false)) → wp_X8_find r x1 x2 x3 x4 x5 (fun y r1 => x = y ∧ Rel (B + 30000) u r1) := by
    intro x hx
    unfold wp_X8_find wp_X8_find_27
    intro r1 f1
    subst f1
    refine q8_takeFields (fun hz => ⟨fun z => absurd z (by decide), fun _ => ?_⟩) (fun hz => ⟨fun _ => ⟨?_, Rel_14 (Rel_0 h)⟩, fun z => absurd rfl z⟩)
    · refine k_found (c := (u.2.2.1 2).1 1) (n := n) hF (fun k hk => by rw [rI_s]; exact zfl_5 _ _ _ _ _ _ k hk) (fun y hy => ⟨?_, Rel_14 (Rel_0 h)⟩)
      rcases hx with ⟨f, f1, f2, f3, f4⟩ | ⟨e1, e2⟩
      · rcases hy with ⟨g, g1, g2, g3, g4⟩ | ⟨d1, d2⟩
        · have : f = g := by
            rcases Nat.lt_trichotomy f g with q | q | q
            · rw [g3 f q] at f4; cases f4
            · exact q
            · rw [f3 g q] at g4; cases g4
          rw [f2, g2, this]
        · rw [d2 f f1] at f4; cases f4
      · rcases hy with ⟨g, g1, g2, g3, g4⟩ | ⟨d1, d2⟩
        · rw [e2 g g1] at g4; cases g4
        · rw [e1, d1]
    · rcases hx with ⟨f, f1, f2, f3, f4⟩ | ⟨e1, e2⟩
      · exfalso
        apply hz
        obtain ⟨z0, z1, z2, z3, z4⟩ := (zisF_iff hF f1 x1 x2 x3 x4 x5).mp f4
        obtain ⟨-, -, -, b4, -⟩ := hF
        refine ⟨by rw [← z0]; exact (b4 f 0 f1 (by omega)).1, by rw [← z1]; exact (b4 f 1 f1 (by omega)).1, by rw [← z2]; exact (b4 f 2 f1 (by omega)).1, by rw [← z3]; exact (b4 f 3 f1 (by omega)).1, ?_⟩
        rw [← z4]
        exact (b4 f 4 f1 (by omega)).2 rfl
      · exact e1
  unfold wp_X7_find
  refine q0_numberOf n h0 h24 (fun f hf h3 h4 u1 e1 => ?_) (fun h3 u1 e1 => ?_)
  · rw [tN_id] at e1
    rw [e1]
    exact fin _ (Or.inl ⟨f, hf, rfl, h3, h4⟩)
  · rw [tN_id] at e1
    rw [e1]
    exact fin _ (Or.inr ⟨rfl, h3⟩)
