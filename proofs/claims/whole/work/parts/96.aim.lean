-- the pure side: aim
theorem zx5 (a b c d e f : Int32) : (((((a ^^^ b) ^^^ c) ^^^ d) ^^^ e) ^^^ c) ^^^ f = (((a ^^^ b) ^^^ f) ^^^ d) ^^^ e := by
  apply i32_ext
  intro j _
  simp only [Int32.toBitVec_xor, BitVec.getLsbD_xor]
  cases a.toBitVec.getLsbD j <;> cases b.toBitVec.getLsbD j <;> cases c.toBitVec.getLsbD j <;> cases d.toBitVec.getLsbD j <;> cases e.toBitVec.getLsbD j <;> cases f.toBitVec.getLsbD j <;> rfl
theorem p_aim {B : Nat} : pX_aim (Rel B) (Rel (B + 30000)) := by
  intro u r x1 x2 h
  replace h := h.up 30000
  have h0 : Rel (B + 30000) u (rN r 0 0) := h
  obtain ⟨n, nr, m, hX⟩ := h.2.2.1.1.x
  have hn := hX.1
  have hK := hX.2.1
  have hF := hX.2.2.1
  have h24 : n ≤ 24 := hF.2.1
  have h4 : (rN r 0 0).1 3 4 = nI n := hF.1
  unfold wp_X7_aim wp_X7_aim_15
  refine q7_isFlow n hn h24 (fun f hf e => ⟨fun z => absurd z (by decide), fun _ => q7_isEntry (fun k hk ek => ⟨fun _ => ?_, fun z => absurd z (by decide)⟩) (fun ho => ⟨fun z => absurd rfl z, fun _ => ?_⟩)⟩) (fun ho => ⟨fun _ => ?_, fun z => absurd rfl z⟩)
  · subst e ek
    have fl : ∀ k, k < 5 → (u.2.2.1 2).1 1 (k * 24 + f) = r.1 3 (73 + 15 * f + k) := by
      intro k hk
      have := hF.2.2.1 f k hf (by omega)
      rcases (show k = 0 ∨ k = 1 ∨ k = 2 ∨ k = 3 ∨ k = 4 by omega) with e | e | e | e | e <;> (subst e; exact this)
    refine q5_hashFlow f rfl (by omega) (fun u1 e1 => q0_get 2 f rfl rfl (by omega) (by omega) (fun u2 e2 => q2_part 2 rfl (by omega) (fun u3 e3 y ey => ?_)))
    have e1' : u1 = u := e1
    subst e1'
    rw [tN_id] at e2
    subst e2
    rw [tN_id] at e3
    subst e3
    obtain ⟨w, ew⟩ : ∃ w, w = zwin (r.1 3 0) (r.1 3 1) (r.1 3 2) := ⟨_, rfl⟩
    have hw : ∀ i, i < 41 → (u3.2.2.1 1).1 1 i = w i := fun i hi => by rw [ew]; exact hK.1 i hi
    rw [hK.2.2.1, fl 0 (by omega), fl 1 (by omega), fl 2 (by omega), fl 3 (by omega), fl 4 (by omega), zhf_eq _ _ _ _ _ _ hw, zpart_eq _ _ 2 (by omega) hw] at ey
    obtain ⟨A, eA⟩ : ∃ A : Nat → Int32, A = fun v => zhf w (r.1 3 3) (r.1 3 (73 + 15 * f + 0)) (r.1 3 (73 + 15 * f + 1)) (nI v) (r.1 3 (73 + 15 * f + 3)) (r.1 3 (73 + 15 * f + 4)) &&& 15 := ⟨_, rfl⟩
    have hA : ∀ v : Nat, (y ^^^ zpart w (r.1 3 3) (nI v) 2) &&& 15 = A v := by
      intro v
      rw [ey, eA]
      show _ = zhf w (r.1 3 3) _ _ (nI v) _ _ &&& 15
      unfold zhf
      rw [zx5]
    have ref : ∀ ans : Int32, ((ans = -1 ∧ ∀ v, v < 256 → ¬ A v = nI k) ∨ ∃ v, v < 256 ∧ ans = nI v ∧ A v = nI k ∧ ∀ a, a < v → ¬ A a = nI k) → wp_X8_aim r (nI f) (nI k) (fun y r1 => ans = y ∧ Rel (B + 30000) u3 r1) := by
      intro ans hans
      unfold wp_X8_aim
      intro r1 f1
      subst f1
      refine q8_isFlow n h4 h24 (fun _ _ _ => ⟨fun z => absurd z (by decide), fun _ => q8_inr 0 15 (by decide) (by decide) (by decide) (fun _ _ _ _ => ⟨fun _ => q8_takeFlow f rfl (by omega) (fun g hg => ?_), fun z => absurd z (by decide)⟩) (fun ho => absurd rfl (ho k (by omega) hk))⟩) (fun ho => absurd rfl (ho f hf))
      have hg' : ∀ k, k < 5 → g k = r.1 3 (73 + 15 * f + k) := hg
      refine zl4 (wp_X8_aim_39 _) 256 (fun i v z1 z2 z3 => z1 = nI k ∧ z3 = nD (256 - i) ∧ (∃ g1 : Nat → Int32, v = rI (rN r 0 0) 14 g1 ∧ ∀ j, j ≠ 2 → j < 5 → g1 j = r.1 3 (73 + 15 * f + j)) ∧ ((z2 = -1 ∧ ∀ v, 256 - i ≤ v → v < 256 → ¬ A v = nI k) ∨ ∃ v, 256 - i ≤ v ∧ v < 256 ∧ z2 = nI v ∧ A v = nI k ∧ ∀ a, 256 - i ≤ a → a < v → ¬ A a = nI k)) ?_ 0 (Nat.zero_le _) _ _ _ _ ⟨rfl, by rw [show 256 - 0 = 255 + 1 by omega, nD_s]; rfl, ⟨g, rfl, fun j _ hj => hg' j hj⟩, Or.inl ⟨rfl, fun v a b => absurd a (by omega)⟩⟩
      rintro i C v z1 z2 z3 hi ⟨rfl, rfl, ⟨g1, rfl, hg1⟩, hp⟩ hC
      unfold wp_X8_aim_39 wp_X8_aim_69
      refine ⟨fun c => ⟨?_, h⟩, fun c a1 d1 => q8_hashNow ?_⟩
      · have hi256 : i = 256 := by
          rcases Nat.lt_or_ge i 256 with q | q
          · rw [show 256 - i = (256 - i - 1) + 1 by omega, nD_s] at c
            exact absurd c (nI_pos (by omega))
          · omega
        subst hi256
        rcases hans with ⟨b1, b2⟩ | ⟨b, b1, b2, b3, b4⟩
        · rcases hp with ⟨c1, c2⟩ | ⟨c, c0, c1, c2, c3, c4⟩
          · rw [b1, c1]
          · exact absurd c3 (b2 c c1)
        · rcases hp with ⟨c1, c2⟩ | ⟨c, c0, c1, c2, c3, c4⟩
          · exact absurd b3 (c2 b (by omega) b1)
          · rw [b2, c2]
            rcases Nat.lt_trichotomy b c with q | q | q
            · exact absurd b3 (c4 b (by omega) q)
            · rw [q]
            · exact absurd c3 (b4 c q)
      · have hlt : i < 256 := by
          rcases Nat.lt_or_ge i 256 with q | q
          · exact q
          · rw [show 256 - i = 0 by omega] at c
            exact absurd nD_0 c
        have ex : nD (256 - i) = nI (255 - i) := by rw [show 256 - i = (255 - i) + 1 by omega, nD_s]
        rw [ex, rI_rI, rI_s] at d1
        have f14 : a1.1 14 = upd g1 2 (nI (255 - i)) := by rw [d1, rI_s]
        have f3 : a1.1 3 = r.1 3 := by rw [d1]; rfl
        have by2 : ∀ k, k < 5 → zbyte (upd g1 2 (nI (255 - i)) k) := by
          intro k hk
          by_cases e : k = 2
          · rw [e, pk_us]; exact ⟨255 - i, by omega, rfl⟩
          · rw [pk_un e, hg1 k e hk]; exact (hF.2.2.2.1 f k hf hk).1
        have hh : zH (zwin (a1.1 3 0) (a1.1 3 1) (a1.1 3 2)) (a1.1 3 3) (a1.1 14) 40 &&& 15 = A (255 - i) := by
          rw [f3, f14, zH_hf _ _ _ by2, pk_un (by decide), pk_un (by decide), pk_us, pk_un (by decide), pk_un (by decide), hg1 0 (by decide) (by decide), hg1 1 (by decide) (by decide), hg1 3 (by decide) (by decide), hg1 4 (by decide) (by decide), ← ew, eA]
        rw [hh, ex]
        have keep : ∃ g2 : Nat → Int32, a1 = rI (rN r 0 0) 14 g2 ∧ ∀ j, j ≠ 2 → j < 5 → g2 j = r.1 3 (73 + 15 * f + j) := ⟨_, d1, fun j j1 j2 => by rw [pk_un j1]; exact hg1 j j1 j2⟩
        have nx : ∀ x : Int32, x = nI (255 - i) + (-1) → x = nD (256 - (i + 1)) := fun x hx => by rw [hx, nI_dn, show 256 - (i + 1) = 255 - i by omega]
        refine ⟨fun c1 x hx => hC _ _ _ _ hlt ⟨rfl, nx x hx, keep, ?_⟩, fun c1 x hx => hC _ _ _ _ hlt ⟨rfl, nx x hx, keep, Or.inr ⟨255 - i, by omega, by omega, rfl, c1, fun a a1 a2 => absurd a1 (by omega)⟩⟩⟩
        rcases hp with ⟨c2, c3⟩ | ⟨c, c0, c2, c3, c4, c5⟩
        · refine Or.inl ⟨c2, fun v v1 v2 => ?_⟩
          by_cases e : v = 255 - i
          · rw [e]; exact c1
          · exact c3 v (by omega) v2
        · refine Or.inr ⟨c, by omega, c2, c3, c4, fun a a1 a2 => ?_⟩
          by_cases e : a = 255 - i
          · rw [e]; exact c1
          · exact c5 a (by omega) a2
    refine zl4 (wp_X7_aim_53 _) 256 (fun i v z1 z2 z3 => v = u3 ∧ z1 = nI k ∧ z2 = y ∧ z3 = nI i ∧ ∀ a, a < i → ¬ A a = nI k) ?_ 0 (Nat.zero_le _) u3 _ _ 0 ⟨rfl, rfl, rfl, rfl, fun a ha => absurd ha (by omega)⟩
    rintro i C v z1 z2 z3 hi ⟨rfl, rfl, rfl, rfl, hp⟩ hC
    unfold wp_X7_aim_53 wp_X7_entryOfHash
    refine ⟨fun c => ?_, fun c => q2_part 2 rfl (by omega) (fun u4 e4 => ?_)⟩
    · have hi := nI_stop (N := 256) (by decide) hi c
      subst hi
      exact ref (-1) (Or.inl ⟨rfl, hp⟩)
    · have hlt := nI_go (N := 256) (by decide) hi c
      rw [tN_id] at e4
      subst e4
      rw [hK.2.2.1, zpart_eq _ _ 2 (by omega) hw, hA i]
      refine ⟨fun c1 x hx => hC _ _ _ _ hlt ⟨rfl, rfl, rfl, by rw [hx, nI_1], fun a ha => ?_⟩, fun c1 => ref (nI i) (Or.inr ⟨i, hlt, rfl, c1, hp⟩)⟩
      by_cases e : a = i
      · rw [e]; exact c1
      · exact hp a (by omega)
  · subst e
    unfold wp_X8_aim wp_X8_aim_25
    intro r1 f1
    subst f1
    exact q8_isFlow n h4 h24 (fun _ _ _ => ⟨fun z => absurd z (by decide), fun _ => q8_inr 0 15 (by decide) (by decide) (by decide) (fun k _ k2 e => absurd e (ho k k2)) (fun _ => ⟨fun z => absurd rfl z, fun _ => ⟨rfl, h0⟩⟩)⟩) (fun ho => absurd rfl (ho f hf))
  · unfold wp_X8_aim wp_X8_aim_25
    intro r1 f1
    subst f1
    exact q8_isFlow n h4 h24 (fun f hf e => absurd e (ho f hf)) (fun _ => ⟨fun _ => ⟨rfl, h0⟩, fun z => absurd rfl z⟩)
