-- the pure side: rules go
/-- the rows of the rules after those with p went, from the last on -/
def zdrs (p : (Nat → Int32) → Nat → Bool) : Nat → (Nat → Int32) → Nat → (Nat → Int32)
  | 0, R, _ => R
  | k + 1, R, nr => if p R k = true then zdrs p k (zdrop8 R k nr) (nr - 1) else zdrs p k R nr
theorem zdrop8_lo {R : Nat → Int32} {k nr i : Nat} (hk : k < nr) (hi : i < 55 + 3 * k) (i5 : i ≠ 5) : zdrop8 R k nr i = R i := by
  unfold zdrop8 zsh
  rw [if_neg (by omega), pk_un i5]
theorem zdrs_ok {n : Nat} {c : Nat → Int32} {P : Nat → Bool} {p : (Nat → Int32) → Nat → Bool} (h24 : n ≤ 24) (hP : ∀ f, f < n → P f = true → zhasR c f = true) : ∀ (k nr : Nat) (d R : Nat → Int32), k ≤ nr → sR n nr d R → (∀ f, f < n → (d (13 * 24 + f) = c (13 * 24 + f) ∧ d (14 * 24 + f) = c (14 * 24 + f)) ∨ (P f = true ∧ d (13 * 24 + f) = -1 ∧ d (14 * 24 + f) = -1)) → (∀ r f, k ≤ r → r < nr → f < n → R (55 + 3 * r) = nI f → P f = false) → (∀ (T : Nat → Int32) (r f : Nat), zframe R T → r < nr → f < n → T (55 + 3 * r) = nI f → T (55 + 3 * r + 1) = c (13 * 24 + f) → T (55 + 3 * r + 2) = c (14 * 24 + f) → zhasR c f = true → (p T r = P f)) → ∃ nr1, sR n nr1 (zdropW P c n) (zdrs p k R nr) ∧ zframe R (zdrs p k R nr)
  | 0, nr, d, R, hk, hR, hd, hl, hp => by
    refine ⟨nr, ?_, fun _ _ _ => rfl⟩
    have key : ∀ f, f < n → (P f = true → d (13 * 24 + f) = -1 ∧ d (14 * 24 + f) = -1) ∧ (P f = false → d (13 * 24 + f) = c (13 * 24 + f) ∧ d (14 * 24 + f) = c (14 * 24 + f)) := by
      intro f hf
      rcases hd f hf with h1 | ⟨h1, h2⟩
      · refine ⟨fun z => ?_, fun _ => h1⟩
        have h3 := hP f hf z
        have h4 : zhasR d f = true := by
          unfold zhasR at h3 ⊢
          rw [h1.1]; exact h3
        obtain ⟨r, r1, r2⟩ := hR.1.2.2.2.2.1 f hf h4
        rw [hl r f (Nat.zero_le _) r1 hf r2] at z
        cases z
      · exact ⟨fun _ => h2, fun z => by rw [h1] at z; cases z⟩
    have e13 : ∀ f, f < n → zdropW P c n (13 * 24 + f) = d (13 * 24 + f) := by
      intro f hf
      rw [zdropW_at P c n _ h24]
      by_cases z : P f = true
      · rw [if_pos (Or.inl ⟨by omega, by omega, by rw [show 13 * 24 + f - 312 = f by omega]; exact z⟩), ((key f hf).1 z).1]
      · rw [if_neg, ((key f hf).2 (by simpa using z)).1]
        rintro (⟨q1, q2, q3⟩ | ⟨q1, q2, q3⟩)
        · rw [show 13 * 24 + f - 312 = f by omega] at q3; exact z q3
        · omega
    have e14 : ∀ f, f < n → zdropW P c n (14 * 24 + f) = d (14 * 24 + f) := by
      intro f hf
      rw [zdropW_at P c n _ h24]
      by_cases z : P f = true
      · rw [if_pos (Or.inr ⟨by omega, by omega, by rw [show 14 * 24 + f - 336 = f by omega]; exact z⟩), ((key f hf).1 z).2]
      · rw [if_neg, ((key f hf).2 (by simpa using z)).2]
        rintro (⟨q1, q2, q3⟩ | ⟨q1, q2, q3⟩)
        · omega
        · rw [show 14 * 24 + f - 336 = f by omega] at q3; exact z q3
    exact hR.fc e13 e14
  | k + 1, nr, d, R, hk, hR, hd, hl, hp => by
    obtain ⟨f, f1, f2, f3, f4, f5⟩ := hR.1.2.2.2.1 k (by omega)
    have same : d (13 * 24 + f) = c (13 * 24 + f) ∧ d (14 * 24 + f) = c (14 * 24 + f) := by
      rcases hd f f1 with h1 | ⟨h1, h2, h3⟩
      · exact h1
      · unfold zhasR at f3
        rw [h2] at f3
        simp at f3
    have hcf : zhasR c f = true := by
      unfold zhasR at f3 ⊢
      rw [← same.1]; exact f3
    have pe : p R k = P f := hp R k f (fun _ _ _ => rfl) (by omega) f1 f2 (by rw [f4, same.1]) (by rw [f5, same.2]) hcf
    have h6 : nr ≤ 6 := hR.1.1
    by_cases z : P f = true
    · have eq : zdrs p (k + 1) R nr = zdrs p k (zdrop8 R k nr) (nr - 1) := by
        show (if p R k = true then _ else _) = _
        rw [if_pos (by rw [pe]; exact z)]
      rw [eq]
      have hR1 : sR n (nr - 1) (zdropR d f) (zdrop8 R k nr) := by
        refine sR_of (rRel_drop h24 hR.1 (by omega) f1 f2) (fun j k1 k2 => ?_) (fun j k1 k2 => ?_)
        · rw [zhasR_drop _ _ _ (by omega) (by omega)] at k2
          by_cases y : j = f
          · rw [if_pos y] at k2; cases k2
          · rw [if_neg y] at k2
            rw [zdropR_o _ _ _ _ (by omega) (by omega) (Or.inl y)]; exact hR.rng h24 j k1 k2
        · rw [zhasR_drop _ _ _ (by omega) (by omega)] at k2
          by_cases y : j = f
          · rw [y]; exact zdropR_14 _ _
          · rw [if_neg y] at k2
            rw [zdropR_o _ _ _ _ (by omega) (by omega) (Or.inl y)]; exact hR.2.2 j k1 k2
      have fr1 : zframe R (zdrop8 R k nr) := zframe_drop h6 (fun _ _ _ => rfl)
      have hh : ∃ nr1, sR n nr1 (zdropW P c n) (zdrs p k (zdrop8 R k nr) (nr - 1)) ∧ zframe (zdrop8 R k nr) (zdrs p k (zdrop8 R k nr) (nr - 1)) := ?_
      · obtain ⟨nr1, a1, a2⟩ := hh
        exact ⟨nr1, a1, fun j j1 j2 => by rw [a2 j j1 j2, fr1 j j1 j2]⟩
      refine zdrs_ok (p := p) h24 hP k (nr - 1) (zdropR d f) (zdrop8 R k nr) (by omega) hR1 (fun g hg => ?_) (fun r g r1 r2 hg e => ?_) (fun T r g hT r2 hg e1 e2 e3 e4 => hp T r g (fun j j1 j2 => by rw [hT j j1 j2, fr1 j j1 j2]) (by omega) hg e1 e2 e3 e4)
      · by_cases y : g = f
        · subst y
          exact Or.inr ⟨z, zdropR_13 _ _, zdropR_14 _ _⟩
        · rw [zdropR_o _ _ 13 _ (by omega) (by omega) (Or.inl y), zdropR_o _ _ 14 _ (by omega) (by omega) (Or.inl y)]
          exact hd g hg
      · have e' : zdrop8 R k nr (55 + 3 * r) = R (55 + 3 * (r + 1)) := by
          unfold zdrop8 zsh
          rw [if_pos (by omega), pk_un (by omega)]
          congr 1
        rw [e'] at e
        exact hl (r + 1) g (by omega) (by omega) hg e
    · have eq : zdrs p (k + 1) R nr = zdrs p k R nr := by
        show (if p R k = true then _ else _) = _
        rw [if_neg (by rw [pe]; exact z)]
      rw [eq]
      refine zdrs_ok (p := p) h24 hP k nr d R (by omega) hR hd (fun r g r1 r2 hg e => ?_) hp
      by_cases y : r = k
      · subst y
        have : g = f := (nI_eq (by omega) (by omega)).mp (e.symm.trans f2)
        subst this
        simpa using z
      · exact hl r g (by omega) r2 hg e
theorem SimX.drops {n nr : Nat} {m : Nat → Nat} {cs : Nat → RS} {R : Nat → Int32} {S : Nat → Int64} {w : RS} {P : Nat → Bool} {p : (Nat → Int32) → Nat → Bool} (h : SimX n nr m cs R S) (hP : ∀ f, f < n → P f = true → zhasR ((cs 2).1 1) f = true) (hp : ∀ (T : Nat → Int32) (r f : Nat), zframe R T → r < nr → f < n → T (55 + 3 * r) = nI f → T (55 + 3 * r + 1) = (cs 2).1 1 (13 * 24 + f) → T (55 + 3 * r + 2) = (cs 2).1 1 (14 * 24 + f) → zhasR ((cs 2).1 1) f = true → (p T r = P f)) (w0 : w.1 0 = (cs 2).1 0) (w1 : w.1 1 = zdropW P ((cs 2).1 1) n) : ∃ nr1, SimX n nr1 m (va_up cs 2 w) (zdrs p nr R nr) S ∧ zframe R (zdrs p nr R nr) := by
  have hF := h.2.2.1
  have hR := h.2.2.2.1
  have h24 : n ≤ 24 := hF.2.1
  obtain ⟨nr1, a1, a2⟩ := zdrs_ok (p := p) h24 hP nr nr _ R (Nat.le_refl _) hR (fun f hf => Or.inl ⟨rfl, rfl⟩) (fun r f r1 r2 => absurd r2 (by omega)) hp
  refine ⟨nr1, h.ruled w0 (fun a j a1 a2 a3 a4 => ?_) (fun j j1 j2 => ?_) (by rw [w1]; exact a1) a2, a2⟩
  · rw [w1, zdropW_at _ _ _ _ h24, if_neg]
    rintro (⟨q1, q2, -⟩ | ⟨q1, q2, -⟩) <;> omega
  · rw [w1, zdropW_at _ _ _ _ h24, if_neg (by rintro (⟨q1, q2, -⟩ | ⟨q1, q2, -⟩) <;> omega), zdropW_at _ _ _ _ h24, if_neg (by rintro (⟨q1, q2, -⟩ | ⟨q1, q2, -⟩) <;> omega)]
    exact ⟨hF.2.2.2.2.2.2.2 j 13 j1 j2 (by omega), hF.2.2.2.2.2.2.2 j 14 j1 j2 (by omega)⟩
theorem zdrop8_5 (R : Nat → Int32) (k nr : Nat) : zdrop8 R k nr 5 = nI (nr - 1) := by
  unfold zdrop8 zsh
  rw [if_neg (by omega), pk_us]
def zold (T : Nat → Int32) (r : Nat) : Bool := decide (¬ T 6 ≤ T (55 + 3 * r + 2) + T 16)
theorem q8_old1 {Qb : RS → Prop} {C : RS → Int32 → Prop} (k nr : Nat) (u : RS) (hk : k < nr) (h6 : nr ≤ 6) (h5 : u.1 3 5 = nI nr) (h0 : ¬ zold (u.1 3) k = true → C u (nD k)) (h1 : zold (u.1 3) k = true → C (rI u 3 (zdrop8 (u.1 3) k nr)) (nD k)) : wp_X8_ticks_20 Qb C u (nI k) := by
  unfold wp_X8_ticks_20
  refine ⟨fun z => absurd z (nI_pos (by omega)), fun _ => ?_⟩
  unfold wp_X8_ruleAt
  rw [nI_lmul, nI_ladd]
  show vp_in (nI (55 + 3 * k) + 2) 1065 ∧ _
  rw [show nI (55 + 3 * k) + 2 = nI (55 + 3 * k + 2) from nI_addl _ _, zn_nI (by omega)]
  unfold wp_X8_ticks_58
  refine ⟨in_nI (by omega) (by decide), fun c => ?_, fun c => q8_dropRule k nr rfl hk h6 h5 ?_⟩
  · intro x ex
    rw [nI_dn] at ex
    subst ex
    exact h0 (by unfold zold; simpa using c)
  · intro x ex
    rw [nI_dn] at ex
    subst ex
    exact h1 (by unfold zold; simpa using c)
theorem q8_olds {Qb : RS → Prop} : ∀ (k nr : Nat) (u : RS), k ≤ nr → nr ≤ 6 → u.1 3 5 = nI nr → (∃ n, zit2 (wp_X8_ticks_66 Qb) n (rI u 3 (zdrs zold k (u.1 3) nr)) 0) → zit2 (wp_X8_ticks_20 Qb) (k + 1) u (nD k)
  | 0, nr, u, hk, h6, h5, h => by
    show wp_X8_ticks_20 Qb (zit2 (wp_X8_ticks_20 Qb) 0) u (nD 0)
    unfold wp_X8_ticks_20
    refine ⟨fun _ => ?_, fun z => absurd nD_0 z⟩
    have e : rI u 3 (zdrs zold 0 (u.1 3) nr) = u := rI_id u 3
    rw [e] at h
    exact h
  | k + 1, nr, u, hk, h6, h5, h => by
    show wp_X8_ticks_20 Qb (zit2 (wp_X8_ticks_20 Qb) (k + 1)) u (nD (k + 1))
    rw [nD_s]
    refine q8_old1 k nr u (by omega) h6 h5 (fun c => q8_olds k nr u (by omega) h6 h5 ?_) (fun c => q8_olds k (nr - 1) _ (by omega) (by omega) (by rw [rI_s]; exact zdrop8_5 _ _ _) ?_)
    · have e : zdrs zold (k + 1) (u.1 3) nr = zdrs zold k (u.1 3) nr := by
        show (if zold (u.1 3) k = true then _ else _) = _
        rw [if_neg c]
      rw [e] at h
      exact h
    · have e : zdrs zold (k + 1) (u.1 3) nr = zdrs zold k (zdrop8 (u.1 3) k nr) (nr - 1) := by
        show (if zold (u.1 3) k = true then _ else _) = _
        rw [if_pos c]
      rw [e] at h
      rw [rI_s, rI_rI]
      exact h
