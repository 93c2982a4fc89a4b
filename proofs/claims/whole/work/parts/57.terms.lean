-- the pure side: terms
theorem q8_inr {x : Int32} {lo hi : Int64} {Q : Int32 → Prop} (a b : Nat) (hb : b < 2147483648) (ea : lo.toInt = a) (eb : hi.toInt = b) (h1 : ∀ k, a ≤ k → k ≤ b → x = nI k → Q 1) (h2 : (∀ k, a ≤ k → k ≤ b → ¬ x = nI k) → Q 0) : wp_X8_in x.toInt64 lo hi Q := by
  refine q8_in (fun p q => ?_) (fun p => h2 (fun k hk hk2 z => p ?_))
  · rw [i64_toInt] at p q
    rw [ea] at p
    rw [eb] at q
    obtain ⟨k, hk, ek⟩ := i32_of (x := x) (n := b) (by omega) q hb
    rw [ek, nI_toInt (by omega)] at p
    exact h1 k (by omega) hk ek
  · rw [i64_toInt, ea, eb, z, nI_toInt (by omega)]
    omega
theorem zlohi : ∀ i : Nat, i < 9 → zLeast i = nI (zlo i) ∧ zMost i = nI (zhi i) ∧ zhi i < 2147483648 ∧ zlo i < 2147483648 := by decide +kernel
theorem q8_isTerm {x1 x2 : Int32} {Q : Int32 → Prop} (h1 : ∀ i k, i < 9 → x1 = nI i → zlo i ≤ k → k ≤ zhi i → x2 = nI k → Q 1) (h2 : (∀ i k, i < 9 → x1 = nI i → zlo i ≤ k → k ≤ zhi i → ¬ x2 = nI k) → Q 0) : wp_X8_isTerm x1 x2 Q := by
  have go : ∀ i, i < 9 → x1 = nI i → ∀ (lo hi : Int64), lo.toInt = zlo i → hi.toInt = zhi i → wp_X8_in x2.toInt64 lo hi (fun r => zBool r ∧ Q r) := by
    intro i hi e lo hi' el eh
    refine q8_inr (zlo i) (zhi i) (zlohi i hi).2.2.1 el eh (fun k k1 k2 ek => ⟨Or.inr rfl, h1 i k hi e k1 k2 ek⟩) (fun ho => ⟨Or.inl rfl, h2 (fun j k hj ej k1 k2 ek => ?_)⟩)
    have : j = i := (nI_eq (by omega) (by omega)).mp (ej.symm.trans e)
    subst this
    exact ho k k1 k2 ek
  unfold wp_X8_isTerm wp_X8_isTerm_52
  refine ⟨fun e => go 0 (by decide) e _ _ (by decide) (by decide), fun e => go 1 (by decide) e _ _ (by decide) (by decide), fun e => go 2 (by decide) e _ _ (by decide) (by decide), fun e => go 3 (by decide) e _ _ (by decide) (by decide), fun e => go 4 (by decide) e _ _ (by decide) (by decide), fun e => go 5 (by decide) e _ _ (by decide) (by decide), fun e => go 6 (by decide) e _ _ (by decide) (by decide), fun e => go 7 (by decide) e _ _ (by decide) (by decide), fun e => go 8 (by decide) e _ _ (by decide) (by decide), fun e0 e1 e2 e3 e4 e5 e6 e7 e8 => h2 (fun i k hi ei _ _ _ => ?_)⟩
  match i, hi, ei with
  | 0, _, ei => exact e0 ei
  | 1, _, ei => exact e1 ei
  | 2, _, ei => exact e2 ei
  | 3, _, ei => exact e3 ei
  | 4, _, ei => exact e4 ei
  | 5, _, ei => exact e5 ei
  | 6, _, ei => exact e6 ei
  | 7, _, ei => exact e7 ei
  | 8, _, ei => exact e8 ei
  | i + 9, hi, _ => omega
theorem Sim.term {cs : Nat → RS} {R : Nat → Int32} {S : Nat → Int64} (h : Sim cs R S) (e k : Nat) (he : e < 9) (k1 : zlo e ≤ k) (k2 : k ≤ zhi e) : Sim (va_up cs 0 (rI (cs 0) 5 (upd ((cs 0).1 5) e (nI k)))) (upd R (14 + e) (nI k)) S := by
  obtain ⟨n, nr, m, h0, hK, hF, hR, hT, hQ, hW, hG, hN, hO, hA⟩ := h
  have fr : ∀ i, i ≠ 14 + e → upd R (14 + e) (nI k) i = R i := fun i hi => pk_un hi
  refine ⟨n, nr, m, ?_, ?_, ?_, ?_, ?_, ?_, ?_, ?_, ?_, ?_, ?_⟩
  · rw [vu_n _ _ (by decide)]; exact h0
  · rw [vu_n _ _ (by decide)]; exact hK.fr (fun i hi => fr i (by omega))
  · rw [vu_n _ _ (by decide)]; exact hF.fr (fun i hi => fr i (by omega))
  · rw [vu_n _ _ (by decide)]; exact hR.fr (fun i hi => fr i (by omega))
  · rw [vu_n _ _ (by decide)]; exact hT.fr (fun i hi => fr i (by omega))
  · intro p hp
    rw [vu_n _ _ (by omega)]; exact (hQ p hp).fr (fun i hi => fr i (by omega))
  · rw [vu_n _ _ (by decide)]; exact hW.fr (fun p hp => (hQ p hp).1) (fun i hi => fr i (by omega))
  · rw [vu_n _ _ (by decide)]; exact hG.fr (fun i hi => fr i (by omega))
  · rw [vu_n _ _ (by decide)]; exact hN
  · rw [vu_s]
    obtain ⟨o1, o2, o3, o4, o5⟩ := hO
    refine ⟨fun i hi => ?_, by rw [rI_n _ _ (by decide), fr _ (by omega)]; exact o2, by rw [rI_n _ _ (by decide), fr _ (by omega)]; exact o3, by rw [fr _ (by omega)]; exact o4, fun i hi => ?_⟩
    · rw [rI_s]
      by_cases z : i = e
      · subst z; rw [pk_us, pk_us]
      · rw [pk_un z, fr _ (by omega)]; exact o1 i hi
    · by_cases z : i = e
      · subst z; rw [pk_us]; exact ⟨k, k1, k2, rfl⟩
      · rw [fr _ (by omega)]; exact o5 i hi
  · rw [vu_n _ _ (by decide)]; exact hA.fr (fun i hi => fr i (by omega))
theorem p_terms {B : Nat} : pX_terms (Rel B) (Rel (B + 30000)) := by
  intro u r x1 x2 h
  replace h := h.up 30000
  have h0 : Rel0 (B + 30000) u (rN r 0 0) := h.2
  have no : (∀ i k, i < 9 → x1 = nI i → zlo i ≤ k → k ≤ zhi i → ¬ x2 = nI k) → wp_X7_terms_28 (fun x u1 => wp_X8_terms r x1 x2 (fun y r1 => x = y ∧ Rel (B + 30000) u1 r1)) u := by
    intro ho
    unfold wp_X7_terms_28
    refine k_refuse 1 (-1) (by decide) (by decide) h0 (fun u1 hu => ?_)
    unfold wp_X8_terms wp_X8_terms_32
    intro r1 e1
    rw [e1]
    exact q8_isTerm (fun i k hi ei k1 k2 ek => absurd ek (ho i k hi ei k1 k2)) (fun _ => ⟨fun _ => hu _ (fun r2 hr => ⟨rfl, hr⟩), fun z => absurd rfl z⟩)
  unfold wp_X7_terms
  rcases in_or_out x1 8 with ⟨e, he, rfl⟩ | ho
  · obtain ⟨z1, z2, z3, z4⟩ := zlohi e (by omega)
    refine ⟨fun c => absurd c (nI_pos (by omega)), fun _ => ⟨fun c => absurd c (nI_ge (b := 9) (by omega) (by decide)), fun _ => ?_⟩⟩
    rw [zn_nI (by omega), z1, z2]
    refine ⟨in_nI (by omega) (by decide), fun c => no ?_, fun c => ⟨in_nI (by omega) (by decide), fun d => ?_, fun d => no ?_⟩⟩
    · intro i k hi ei k1 k2 ek
      have : e = i := (nI_eq (by omega) (by omega)).mp ei
      subst this
      rw [ek] at c
      exact nI_nlt k1 (by omega) c
    · obtain ⟨k, k1, k2, rfl⟩ : ∃ k, zlo e ≤ k ∧ k ≤ zhi e ∧ x2 = nI k := by
        rw [Int32.lt_iff_toInt_lt, nI_toInt z4] at c
        rw [Int32.le_iff_toInt_le, nI_toInt z3] at d
        obtain ⟨k, hk, ek⟩ := i32_of (x := x2) (n := zhi e) (by omega) d z3
        rw [ek, nI_toInt (by omega)] at c
        exact ⟨k, by omega, hk, ek⟩
      refine q7_begin h0 (fun u1 l1 n1 o1 hrem => ⟨in_nI (by omega) (by decide), fun y ey => ⟨in_nI (by omega) (by decide), fun u2 e2 => ?_⟩⟩)
      unfold wp_X8_terms wp_X8_terms_32
      intro r1 e1
      subst e1
      have hs : Sim u.2.2.1 (r.1 3) (r.2 4) := h.2.2.1.1
      have ht : (u.2.2.1 0).1 5 e = r.1 3 (14 + e) := by
        obtain ⟨n, nr, m, -, -, -, -, -, -, -, -, -, hO, -⟩ := hs
        exact hO.1 e (by omega)
      refine q8_isTerm (fun _ _ _ _ _ _ _ => ⟨fun z => absurd z (by decide), fun _ => q8_becomes h0 (14 + e) (by rw [nI_ladd]) (by omega) (fun m v r2 m1 m2 hz hr => ⟨?_, ?_⟩)⟩) (fun ho => absurd rfl (ho e k (by omega) rfl k1 k2))
      · rw [ey, n1]; exact ht
      · rw [n1] at e2
        exact k_put (hrem m v m1 m2 hz) l1 e2 hz hr ⟨hs.term e k (by omega) k1 k2, h.2.2.1.2.fr (fun i hi => pk_un (by omega)) (fun _ _ => rfl)⟩
    · intro i k hi ei k1 k2 ek
      have : e = i := (nI_eq (by omega) (by omega)).mp ei
      subst this
      rw [ek] at d
      exact d (nI_le k2 (by omega))
  · have ho2 := no (fun i k hi ei _ _ _ => ho i (by omega) ei)
    exact ⟨fun _ => ho2, fun c => ⟨fun _ => ho2, fun d => absurd (Int32.not_le.mp d) (out_lt (n := 8) (by decide) ho c)⟩⟩
